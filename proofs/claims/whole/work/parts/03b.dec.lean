theorem dX2_init_0 : decode cX2_init 0 = .ok (.aload_n 0, 1) := by decide +kernel
theorem dX2_init_1 : decode cX2_init 1 = .ok (.invokespecial 1, 3) := by decide +kernel
theorem dX2_init_4 : decode cX2_init 4 = .ok (.aload_n 0, 1) := by decide +kernel
theorem dX2_init_5 : decode cX2_init 5 = .ok (.new 7, 3) := by decide +kernel
theorem dX2_init_8 : decode cX2_init 8 = .ok (.dup, 1) := by decide +kernel
theorem dX2_init_9 : decode cX2_init 9 = .ok (.invokespecial 9, 3) := by decide +kernel
theorem dX2_init_12 : decode cX2_init 12 = .ok (.putfield 10, 3) := by decide +kernel
theorem dX2_init_15 : decode cX2_init 15 = .ok (.aload_n 0, 1) := by decide +kernel
theorem dX2_init_16 : decode cX2_init 16 = .ok (.new 7, 3) := by decide +kernel
theorem dX2_init_19 : decode cX2_init 19 = .ok (.dup, 1) := by decide +kernel
theorem dX2_init_20 : decode cX2_init 20 = .ok (.invokespecial 9, 3) := by decide +kernel
theorem dX2_init_23 : decode cX2_init 23 = .ok (.putfield 16, 3) := by decide +kernel
theorem dX2_init_26 : decode cX2_init 26 = .ok (.aload_n 0, 1) := by decide +kernel
theorem dX2_init_27 : decode cX2_init 27 = .ok (.new 19, 3) := by decide +kernel
theorem dX2_init_30 : decode cX2_init 30 = .ok (.dup, 1) := by decide +kernel
theorem dX2_init_31 : decode cX2_init 31 = .ok (.invokespecial 21, 3) := by decide +kernel
theorem dX2_init_34 : decode cX2_init 34 = .ok (.putfield 22, 3) := by decide +kernel
theorem dX2_init_37 : decode cX2_init 37 = .ok (.aload_n 0, 1) := by decide +kernel
theorem dX2_init_38 : decode cX2_init 38 = .ok (.bipush 24, 2) := by decide +kernel
theorem dX2_init_40 : decode cX2_init 40 = .ok (.iconst 5, 1) := by decide +kernel
theorem dX2_init_41 : decode cX2_init 41 = .ok (.multianewarray 26 2, 4) := by decide +kernel
theorem dX2_init_45 : decode cX2_init 45 = .ok (.putfield 28, 3) := by decide +kernel
theorem dX2_init_48 : decode cX2_init 48 = .ok (.aload_n 0, 1) := by decide +kernel
theorem dX2_init_49 : decode cX2_init 49 = .ok (.iconst 0, 1) := by decide +kernel
theorem dX2_init_50 : decode cX2_init 50 = .ok (.putfield 31, 3) := by decide +kernel
theorem dX2_init_53 : decode cX2_init 53 = .ok (.aload_n 0, 1) := by decide +kernel
theorem dX2_init_54 : decode cX2_init 54 = .ok (.iconst 0, 1) := by decide +kernel
theorem dX2_init_55 : decode cX2_init 55 = .ok (.putfield 35, 3) := by decide +kernel
theorem dX2_init_58 : decode cX2_init 58 = .ok (.aload_n 0, 1) := by decide +kernel
theorem dX2_init_59 : decode cX2_init 59 = .ok (.bipush 10, 2) := by decide +kernel
theorem dX2_init_61 : decode cX2_init 61 = .ok (.putfield 38, 3) := by decide +kernel
theorem dX2_init_64 : decode cX2_init 64 = .ok (.aload_n 0, 1) := by decide +kernel
theorem dX2_init_65 : decode cX2_init 65 = .ok (.bipush 12, 2) := by decide +kernel
theorem dX2_init_67 : decode cX2_init 67 = .ok (.iconst 4, 1) := by decide +kernel
theorem dX2_init_68 : decode cX2_init 68 = .ok (.multianewarray 26 2, 4) := by decide +kernel
theorem dX2_init_72 : decode cX2_init 72 = .ok (.putfield 41, 3) := by decide +kernel
theorem dX2_init_75 : decode cX2_init 75 = .ok (.aload_n 0, 1) := by decide +kernel
theorem dX2_init_76 : decode cX2_init 76 = .ok (.iconst 0, 1) := by decide +kernel
theorem dX2_init_77 : decode cX2_init 77 = .ok (.putfield 44, 3) := by decide +kernel
theorem dX2_init_80 : decode cX2_init 80 = .ok (.aload_n 0, 1) := by decide +kernel
theorem dX2_init_81 : decode cX2_init 81 = .ok (.iconst 0, 1) := by decide +kernel
theorem dX2_init_82 : decode cX2_init 82 = .ok (.putfield 47, 3) := by decide +kernel
theorem dX2_init_85 : decode cX2_init 85 = .ok (.return_, 1) := by decide +kernel
theorem dX2_layer_0 : decode cX2_layer 0 = .ok (.iload_n 1, 1) := by decide +kernel
theorem dX2_layer_1 : decode cX2_layer 1 = .ok (.iconst 1, 1) := by decide +kernel
theorem dX2_layer_2 : decode cX2_layer 2 = .ok (.sipush 1000, 3) := by decide +kernel
theorem dX2_layer_5 : decode cX2_layer 5 = .ok (.invokestatic 50, 3) := by decide +kernel
theorem dX2_layer_8 : decode cX2_layer 8 = .ok (.ifCond .eq 33, 3) := by decide +kernel
theorem dX2_layer_11 : decode cX2_layer 11 = .ok (.iload_n 2, 1) := by decide +kernel
theorem dX2_layer_12 : decode cX2_layer 12 = .ok (.iconst 1, 1) := by decide +kernel
theorem dX2_layer_13 : decode cX2_layer 13 = .ok (.bipush 50, 2) := by decide +kernel
theorem dX2_layer_15 : decode cX2_layer 15 = .ok (.invokestatic 50, 3) := by decide +kernel
theorem dX2_layer_18 : decode cX2_layer 18 = .ok (.ifCond .eq 23, 3) := by decide +kernel
theorem dX2_layer_21 : decode cX2_layer 21 = .ok (.iload_n 3, 1) := by decide +kernel
theorem dX2_layer_22 : decode cX2_layer 22 = .ok (.iconst 1, 1) := by decide +kernel
theorem dX2_layer_23 : decode cX2_layer 23 = .ok (.bipush 50, 2) := by decide +kernel
theorem dX2_layer_25 : decode cX2_layer 25 = .ok (.invokestatic 50, 3) := by decide +kernel
theorem dX2_layer_28 : decode cX2_layer 28 = .ok (.ifCond .eq 13, 3) := by decide +kernel
theorem dX2_layer_31 : decode cX2_layer 31 = .ok (.iload 4, 2) := by decide +kernel
theorem dX2_layer_33 : decode cX2_layer 33 = .ok (.iconst 0, 1) := by decide +kernel
theorem dX2_layer_34 : decode cX2_layer 34 = .ok (.iconst 2, 1) := by decide +kernel
theorem dX2_layer_35 : decode cX2_layer 35 = .ok (.invokestatic 50, 3) := by decide +kernel
theorem dX2_layer_38 : decode cX2_layer 38 = .ok (.ifCond .ne 6, 3) := by decide +kernel
theorem dX2_layer_41 : decode cX2_layer 41 = .ok (.bipush (-102), 2) := by decide +kernel
theorem dX2_layer_43 : decode cX2_layer 43 = .ok (.ireturn, 1) := by decide +kernel
theorem dX2_layer_44 : decode cX2_layer 44 = .ok (.aload_n 0, 1) := by decide +kernel
theorem dX2_layer_45 : decode cX2_layer 45 = .ok (.getfield 10, 3) := by decide +kernel
theorem dX2_layer_48 : decode cX2_layer 48 = .ok (.getfield 54, 3) := by decide +kernel
theorem dX2_layer_51 : decode cX2_layer 51 = .ok (.bipush 6, 2) := by decide +kernel
theorem dX2_layer_53 : decode cX2_layer 53 = .ok (.if_icmp .lt 6, 3) := by decide +kernel
theorem dX2_layer_56 : decode cX2_layer 56 = .ok (.bipush (-104), 2) := by decide +kernel
theorem dX2_layer_58 : decode cX2_layer 58 = .ok (.ireturn, 1) := by decide +kernel
theorem dX2_layer_59 : decode cX2_layer 59 = .ok (.aload_n 0, 1) := by decide +kernel
theorem dX2_layer_60 : decode cX2_layer 60 = .ok (.getfield 10, 3) := by decide +kernel
theorem dX2_layer_63 : decode cX2_layer 63 = .ok (.iload_n 1, 1) := by decide +kernel
theorem dX2_layer_64 : decode cX2_layer 64 = .ok (.iload_n 2, 1) := by decide +kernel
theorem dX2_layer_65 : decode cX2_layer 65 = .ok (.iload_n 3, 1) := by decide +kernel
theorem dX2_layer_66 : decode cX2_layer 66 = .ok (.iload 4, 2) := by decide +kernel
theorem dX2_layer_68 : decode cX2_layer 68 = .ok (.invokevirtual 57, 3) := by decide +kernel
theorem dX2_layer_71 : decode cX2_layer 71 = .ok (.aload_n 0, 1) := by decide +kernel
theorem dX2_layer_72 : decode cX2_layer 72 = .ok (.getfield 10, 3) := by decide +kernel
theorem dX2_layer_75 : decode cX2_layer 75 = .ok (.getfield 54, 3) := by decide +kernel
theorem dX2_layer_78 : decode cX2_layer 78 = .ok (.ireturn, 1) := by decide +kernel
theorem dX2_clear_0 : decode cX2_clear 0 = .ok (.aload_n 0, 1) := by decide +kernel
theorem dX2_clear_1 : decode cX2_clear 1 = .ok (.getfield 10, 3) := by decide +kernel
theorem dX2_clear_4 : decode cX2_clear 4 = .ok (.getfield 54, 3) := by decide +kernel
theorem dX2_clear_7 : decode cX2_clear 7 = .ok (.istore_n 1, 1) := by decide +kernel
theorem dX2_clear_8 : decode cX2_clear 8 = .ok (.aload_n 0, 1) := by decide +kernel
theorem dX2_clear_9 : decode cX2_clear 9 = .ok (.getfield 10, 3) := by decide +kernel
theorem dX2_clear_12 : decode cX2_clear 12 = .ok (.invokevirtual 61, 3) := by decide +kernel
theorem dX2_clear_15 : decode cX2_clear 15 = .ok (.aload_n 0, 1) := by decide +kernel
theorem dX2_clear_16 : decode cX2_clear 16 = .ok (.iconst 0, 1) := by decide +kernel
theorem dX2_clear_17 : decode cX2_clear 17 = .ok (.putfield 44, 3) := by decide +kernel
theorem dX2_clear_20 : decode cX2_clear 20 = .ok (.iload_n 1, 1) := by decide +kernel
theorem dX2_clear_21 : decode cX2_clear 21 = .ok (.ireturn, 1) := by decide +kernel
theorem dX2_corner_0 : decode cX2_corner 0 = .ok (.iload_n 1, 1) := by decide +kernel
theorem dX2_corner_1 : decode cX2_corner 1 = .ok (.iconst 0, 1) := by decide +kernel
theorem dX2_corner_2 : decode cX2_corner 2 = .ok (.iconst 2, 1) := by decide +kernel
theorem dX2_corner_3 : decode cX2_corner 3 = .ok (.invokestatic 50, 3) := by decide +kernel
theorem dX2_corner_6 : decode cX2_corner 6 = .ok (.ifCond .eq 12, 3) := by decide +kernel
theorem dX2_corner_9 : decode cX2_corner 9 = .ok (.iload_n 2, 1) := by decide +kernel
theorem dX2_corner_10 : decode cX2_corner 10 = .ok (.iconst 0, 1) := by decide +kernel
theorem dX2_corner_11 : decode cX2_corner 11 = .ok (.iconst 4, 1) := by decide +kernel
theorem dX2_corner_12 : decode cX2_corner 12 = .ok (.invokestatic 50, 3) := by decide +kernel
theorem dX2_corner_15 : decode cX2_corner 15 = .ok (.ifCond .ne 6, 3) := by decide +kernel
theorem dX2_corner_18 : decode cX2_corner 18 = .ok (.bipush (-101), 2) := by decide +kernel
theorem dX2_corner_20 : decode cX2_corner 20 = .ok (.ireturn, 1) := by decide +kernel
theorem dX2_corner_21 : decode cX2_corner 21 = .ok (.aload_n 0, 1) := by decide +kernel
theorem dX2_corner_22 : decode cX2_corner 22 = .ok (.getfield 10, 3) := by decide +kernel
theorem dX2_corner_25 : decode cX2_corner 25 = .ok (.getfield 64, 3) := by decide +kernel
theorem dX2_corner_28 : decode cX2_corner 28 = .ok (.iload_n 1, 1) := by decide +kernel
theorem dX2_corner_29 : decode cX2_corner 29 = .ok (.aaload, 1) := by decide +kernel
theorem dX2_corner_30 : decode cX2_corner 30 = .ok (.astore 4, 2) := by decide +kernel
theorem dX2_corner_32 : decode cX2_corner 32 = .ok (.iload_n 2, 1) := by decide +kernel
theorem dX2_corner_33 : decode cX2_corner 33 = .ok (.ifCond .ne 7, 3) := by decide +kernel
theorem dX2_corner_36 : decode cX2_corner 36 = .ok (.iconst 0, 1) := by decide +kernel
theorem dX2_corner_37 : decode cX2_corner 37 = .ok (.goto 9, 3) := by decide +kernel
theorem dX2_corner_40 : decode cX2_corner 40 = .ok (.aload 4, 2) := by decide +kernel
theorem dX2_corner_42 : decode cX2_corner 42 = .ok (.iload_n 2, 1) := by decide +kernel
theorem dX2_corner_43 : decode cX2_corner 43 = .ok (.iconst 1, 1) := by decide +kernel
theorem dX2_corner_44 : decode cX2_corner 44 = .ok (.isub, 1) := by decide +kernel
theorem dX2_corner_45 : decode cX2_corner 45 = .ok (.iaload, 1) := by decide +kernel
theorem dX2_corner_46 : decode cX2_corner 46 = .ok (.istore 5, 2) := by decide +kernel
theorem dX2_corner_48 : decode cX2_corner 48 = .ok (.iload_n 2, 1) := by decide +kernel
theorem dX2_corner_49 : decode cX2_corner 49 = .ok (.iconst 4, 1) := by decide +kernel
theorem dX2_corner_50 : decode cX2_corner 50 = .ok (.if_icmp .ne 9, 3) := by decide +kernel
theorem dX2_corner_53 : decode cX2_corner 53 = .ok (.sipush 1000, 3) := by decide +kernel
theorem dX2_corner_56 : decode cX2_corner 56 = .ok (.goto 9, 3) := by decide +kernel
theorem dX2_corner_59 : decode cX2_corner 59 = .ok (.aload 4, 2) := by decide +kernel
theorem dX2_corner_61 : decode cX2_corner 61 = .ok (.iload_n 2, 1) := by decide +kernel
theorem dX2_corner_62 : decode cX2_corner 62 = .ok (.iconst 1, 1) := by decide +kernel
theorem dX2_corner_63 : decode cX2_corner 63 = .ok (.iadd, 1) := by decide +kernel
theorem dX2_corner_64 : decode cX2_corner 64 = .ok (.iaload, 1) := by decide +kernel
theorem dX2_corner_65 : decode cX2_corner 65 = .ok (.istore 6, 2) := by decide +kernel
theorem dX2_corner_67 : decode cX2_corner 67 = .ok (.iload_n 3, 1) := by decide +kernel
theorem dX2_corner_68 : decode cX2_corner 68 = .ok (.iload 5, 2) := by decide +kernel
theorem dX2_corner_70 : decode cX2_corner 70 = .ok (.iload 6, 2) := by decide +kernel
theorem dX2_corner_72 : decode cX2_corner 72 = .ok (.invokestatic 50, 3) := by decide +kernel
theorem dX2_corner_75 : decode cX2_corner 75 = .ok (.ifCond .ne 6, 3) := by decide +kernel
theorem dX2_corner_78 : decode cX2_corner 78 = .ok (.bipush (-102), 2) := by decide +kernel
theorem dX2_corner_80 : decode cX2_corner 80 = .ok (.ireturn, 1) := by decide +kernel
theorem dX2_corner_81 : decode cX2_corner 81 = .ok (.aload 4, 2) := by decide +kernel
theorem dX2_corner_83 : decode cX2_corner 83 = .ok (.iload_n 2, 1) := by decide +kernel
theorem dX2_corner_84 : decode cX2_corner 84 = .ok (.iaload, 1) := by decide +kernel
theorem dX2_corner_85 : decode cX2_corner 85 = .ok (.istore 7, 2) := by decide +kernel
theorem dX2_corner_87 : decode cX2_corner 87 = .ok (.aload 4, 2) := by decide +kernel
theorem dX2_corner_89 : decode cX2_corner 89 = .ok (.iload_n 2, 1) := by decide +kernel
theorem dX2_corner_90 : decode cX2_corner 90 = .ok (.iload_n 3, 1) := by decide +kernel
theorem dX2_corner_91 : decode cX2_corner 91 = .ok (.iastore, 1) := by decide +kernel
theorem dX2_corner_92 : decode cX2_corner 92 = .ok (.iload 7, 2) := by decide +kernel
theorem dX2_corner_94 : decode cX2_corner 94 = .ok (.ireturn, 1) := by decide +kernel
theorem dX2_water_0 : decode cX2_water 0 = .ok (.aload_n 0, 1) := by decide +kernel
theorem dX2_water_1 : decode cX2_water 1 = .ok (.getfield 10, 3) := by decide +kernel
theorem dX2_water_4 : decode cX2_water 4 = .ok (.iload_n 1, 1) := by decide +kernel
theorem dX2_water_5 : decode cX2_water 5 = .ok (.invokevirtual 67, 3) := by decide +kernel
theorem dX2_water_8 : decode cX2_water 8 = .ok (.ifCond .ne 6, 3) := by decide +kernel
theorem dX2_water_11 : decode cX2_water 11 = .ok (.bipush (-101), 2) := by decide +kernel
theorem dX2_water_13 : decode cX2_water 13 = .ok (.ireturn, 1) := by decide +kernel
theorem dX2_water_14 : decode cX2_water 14 = .ok (.iload_n 2, 1) := by decide +kernel
theorem dX2_water_15 : decode cX2_water 15 = .ok (.iconst 0, 1) := by decide +kernel
theorem dX2_water_16 : decode cX2_water 16 = .ok (.aload_n 0, 1) := by decide +kernel
theorem dX2_water_17 : decode cX2_water 17 = .ok (.getfield 10, 3) := by decide +kernel
theorem dX2_water_20 : decode cX2_water 20 = .ok (.getfield 71, 3) := by decide +kernel
theorem dX2_water_23 : decode cX2_water 23 = .ok (.iload_n 1, 1) := by decide +kernel
theorem dX2_water_24 : decode cX2_water 24 = .ok (.iaload, 1) := by decide +kernel
theorem dX2_water_25 : decode cX2_water 25 = .ok (.invokestatic 50, 3) := by decide +kernel
theorem dX2_water_28 : decode cX2_water 28 = .ok (.ifCond .ne 6, 3) := by decide +kernel
theorem dX2_water_31 : decode cX2_water 31 = .ok (.bipush (-102), 2) := by decide +kernel
theorem dX2_water_33 : decode cX2_water 33 = .ok (.ireturn, 1) := by decide +kernel
theorem dX2_water_34 : decode cX2_water 34 = .ok (.aload_n 0, 1) := by decide +kernel
theorem dX2_water_35 : decode cX2_water 35 = .ok (.getfield 10, 3) := by decide +kernel
theorem dX2_water_38 : decode cX2_water 38 = .ok (.getfield 75, 3) := by decide +kernel
theorem dX2_water_41 : decode cX2_water 41 = .ok (.iload_n 1, 1) := by decide +kernel
theorem dX2_water_42 : decode cX2_water 42 = .ok (.iaload, 1) := by decide +kernel
theorem dX2_water_43 : decode cX2_water 43 = .ok (.istore_n 3, 1) := by decide +kernel
theorem dX2_water_44 : decode cX2_water 44 = .ok (.aload_n 0, 1) := by decide +kernel
theorem dX2_water_45 : decode cX2_water 45 = .ok (.getfield 10, 3) := by decide +kernel
theorem dX2_water_48 : decode cX2_water 48 = .ok (.getfield 75, 3) := by decide +kernel
theorem dX2_water_51 : decode cX2_water 51 = .ok (.iload_n 1, 1) := by decide +kernel
theorem dX2_water_52 : decode cX2_water 52 = .ok (.iload_n 2, 1) := by decide +kernel
theorem dX2_water_53 : decode cX2_water 53 = .ok (.iastore, 1) := by decide +kernel
theorem dX2_water_54 : decode cX2_water 54 = .ok (.aload_n 0, 1) := by decide +kernel
theorem dX2_water_55 : decode cX2_water 55 = .ok (.getfield 10, 3) := by decide +kernel
theorem dX2_water_58 : decode cX2_water 58 = .ok (.getfield 78, 3) := by decide +kernel
theorem dX2_water_61 : decode cX2_water 61 = .ok (.iconst 4, 1) := by decide +kernel
theorem dX2_water_62 : decode cX2_water 62 = .ok (.dup2, 1) := by decide +kernel
theorem dX2_water_63 : decode cX2_water 63 = .ok (.iaload, 1) := by decide +kernel
theorem dX2_water_64 : decode cX2_water 64 = .ok (.iload_n 2, 1) := by decide +kernel
theorem dX2_water_65 : decode cX2_water 65 = .ok (.iload_n 3, 1) := by decide +kernel
theorem dX2_water_66 : decode cX2_water 66 = .ok (.isub, 1) := by decide +kernel
theorem dX2_water_67 : decode cX2_water 67 = .ok (.iadd, 1) := by decide +kernel
theorem dX2_water_68 : decode cX2_water 68 = .ok (.iastore, 1) := by decide +kernel
theorem dX2_water_69 : decode cX2_water 69 = .ok (.iload_n 3, 1) := by decide +kernel
theorem dX2_water_70 : decode cX2_water 70 = .ok (.ireturn, 1) := by decide +kernel
theorem dX2_about_0 : decode cX2_about 0 = .ok (.aload_n 0, 1) := by decide +kernel
theorem dX2_about_1 : decode cX2_about 1 = .ok (.getfield 10, 3) := by decide +kernel
theorem dX2_about_4 : decode cX2_about 4 = .ok (.iload_n 1, 1) := by decide +kernel
theorem dX2_about_5 : decode cX2_about 5 = .ok (.invokevirtual 67, 3) := by decide +kernel
theorem dX2_about_8 : decode cX2_about 8 = .ok (.ifCond .ne 6, 3) := by decide +kernel
theorem dX2_about_11 : decode cX2_about 11 = .ok (.bipush (-101), 2) := by decide +kernel
theorem dX2_about_13 : decode cX2_about 13 = .ok (.ireturn, 1) := by decide +kernel
theorem dX2_about_14 : decode cX2_about 14 = .ok (.iload_n 2, 1) := by decide +kernel
theorem dX2_about_15 : decode cX2_about 15 = .ok (.iconst 0, 1) := by decide +kernel
theorem dX2_about_16 : decode cX2_about 16 = .ok (.bipush 8, 2) := by decide +kernel
theorem dX2_about_18 : decode cX2_about 18 = .ok (.invokestatic 50, 3) := by decide +kernel
theorem dX2_about_21 : decode cX2_about 21 = .ok (.ifCond .ne 6, 3) := by decide +kernel
theorem dX2_about_24 : decode cX2_about 24 = .ok (.bipush (-102), 2) := by decide +kernel
theorem dX2_about_26 : decode cX2_about 26 = .ok (.ireturn, 1) := by decide +kernel
theorem dX2_about_27 : decode cX2_about 27 = .ok (.aload_n 0, 1) := by decide +kernel
theorem dX2_about_28 : decode cX2_about 28 = .ok (.getfield 10, 3) := by decide +kernel
theorem dX2_about_31 : decode cX2_about 31 = .ok (.iload_n 1, 1) := by decide +kernel
theorem dX2_about_32 : decode cX2_about 32 = .ok (.iload_n 2, 1) := by decide +kernel
theorem dX2_about_33 : decode cX2_about 33 = .ok (.invokevirtual 81, 3) := by decide +kernel
theorem dX2_about_36 : decode cX2_about 36 = .ok (.ireturn, 1) := by decide +kernel
theorem dX2_hour_0 : decode cX2_hour 0 = .ok (.iload_n 1, 1) := by decide +kernel
theorem dX2_hour_1 : decode cX2_hour 1 = .ok (.invokestatic 85, 3) := by decide +kernel
theorem dX2_hour_4 : decode cX2_hour 4 = .ok (.ifCond .eq 36, 3) := by decide +kernel
theorem dX2_hour_7 : decode cX2_hour 7 = .ok (.iload_n 2, 1) := by decide +kernel
theorem dX2_hour_8 : decode cX2_hour 8 = .ok (.invokestatic 88, 3) := by decide +kernel
theorem dX2_hour_11 : decode cX2_hour 11 = .ok (.ifCond .eq 29, 3) := by decide +kernel
theorem dX2_hour_14 : decode cX2_hour 14 = .ok (.iload_n 3, 1) := by decide +kernel
theorem dX2_hour_15 : decode cX2_hour 15 = .ok (.iconst 0, 1) := by decide +kernel
theorem dX2_hour_16 : decode cX2_hour 16 = .ok (.bipush 100, 2) := by decide +kernel
theorem dX2_hour_18 : decode cX2_hour 18 = .ok (.invokestatic 50, 3) := by decide +kernel
theorem dX2_hour_21 : decode cX2_hour 21 = .ok (.ifCond .eq 19, 3) := by decide +kernel
theorem dX2_hour_24 : decode cX2_hour 24 = .ok (.iload 4, 2) := by decide +kernel
theorem dX2_hour_26 : decode cX2_hour 26 = .ok (.invokestatic 85, 3) := by decide +kernel
theorem dX2_hour_29 : decode cX2_hour 29 = .ok (.ifCond .eq 11, 3) := by decide +kernel
theorem dX2_hour_32 : decode cX2_hour 32 = .ok (.iload 5, 2) := by decide +kernel
theorem dX2_hour_34 : decode cX2_hour 34 = .ok (.invokestatic 88, 3) := by decide +kernel
theorem dX2_hour_37 : decode cX2_hour 37 = .ok (.ifCond .ne 6, 3) := by decide +kernel
theorem dX2_hour_40 : decode cX2_hour 40 = .ok (.bipush (-102), 2) := by decide +kernel
theorem dX2_hour_42 : decode cX2_hour 42 = .ok (.ireturn, 1) := by decide +kernel
theorem dX2_hour_43 : decode cX2_hour 43 = .ok (.aload_n 0, 1) := by decide +kernel
theorem dX2_hour_44 : decode cX2_hour 44 = .ok (.getfield 31, 3) := by decide +kernel
theorem dX2_hour_47 : decode cX2_hour 47 = .ok (.bipush 24, 2) := by decide +kernel
theorem dX2_hour_49 : decode cX2_hour 49 = .ok (.if_icmp .lt 6, 3) := by decide +kernel
theorem dX2_hour_52 : decode cX2_hour 52 = .ok (.bipush (-104), 2) := by decide +kernel
theorem dX2_hour_54 : decode cX2_hour 54 = .ok (.ireturn, 1) := by decide +kernel
theorem dX2_hour_55 : decode cX2_hour 55 = .ok (.aload_n 0, 1) := by decide +kernel
theorem dX2_hour_56 : decode cX2_hour 56 = .ok (.getfield 28, 3) := by decide +kernel
theorem dX2_hour_59 : decode cX2_hour 59 = .ok (.aload_n 0, 1) := by decide +kernel
theorem dX2_hour_60 : decode cX2_hour 60 = .ok (.getfield 31, 3) := by decide +kernel
theorem dX2_hour_63 : decode cX2_hour 63 = .ok (.aaload, 1) := by decide +kernel
theorem dX2_hour_64 : decode cX2_hour 64 = .ok (.astore 6, 2) := by decide +kernel
theorem dX2_hour_66 : decode cX2_hour 66 = .ok (.aload 6, 2) := by decide +kernel
theorem dX2_hour_68 : decode cX2_hour 68 = .ok (.iconst 0, 1) := by decide +kernel
theorem dX2_hour_69 : decode cX2_hour 69 = .ok (.iload_n 1, 1) := by decide +kernel
theorem dX2_hour_70 : decode cX2_hour 70 = .ok (.iastore, 1) := by decide +kernel
theorem dX2_hour_71 : decode cX2_hour 71 = .ok (.aload 6, 2) := by decide +kernel
theorem dX2_hour_73 : decode cX2_hour 73 = .ok (.iconst 1, 1) := by decide +kernel
theorem dX2_hour_74 : decode cX2_hour 74 = .ok (.iload_n 2, 1) := by decide +kernel
theorem dX2_hour_75 : decode cX2_hour 75 = .ok (.iastore, 1) := by decide +kernel
theorem dX2_hour_76 : decode cX2_hour 76 = .ok (.aload 6, 2) := by decide +kernel
theorem dX2_hour_78 : decode cX2_hour 78 = .ok (.iconst 2, 1) := by decide +kernel
theorem dX2_hour_79 : decode cX2_hour 79 = .ok (.iload_n 3, 1) := by decide +kernel
theorem dX2_hour_80 : decode cX2_hour 80 = .ok (.iastore, 1) := by decide +kernel
theorem dX2_hour_81 : decode cX2_hour 81 = .ok (.aload 6, 2) := by decide +kernel
theorem dX2_hour_83 : decode cX2_hour 83 = .ok (.iconst 3, 1) := by decide +kernel
theorem dX2_hour_84 : decode cX2_hour 84 = .ok (.iload 4, 2) := by decide +kernel
theorem dX2_hour_86 : decode cX2_hour 86 = .ok (.iastore, 1) := by decide +kernel
theorem dX2_hour_87 : decode cX2_hour 87 = .ok (.aload 6, 2) := by decide +kernel
theorem dX2_hour_89 : decode cX2_hour 89 = .ok (.iconst 4, 1) := by decide +kernel
theorem dX2_hour_90 : decode cX2_hour 90 = .ok (.iload 5, 2) := by decide +kernel
theorem dX2_hour_92 : decode cX2_hour 92 = .ok (.iastore, 1) := by decide +kernel
theorem dX2_hour_93 : decode cX2_hour 93 = .ok (.aload_n 0, 1) := by decide +kernel
theorem dX2_hour_94 : decode cX2_hour 94 = .ok (.dup, 1) := by decide +kernel
theorem dX2_hour_95 : decode cX2_hour 95 = .ok (.getfield 31, 3) := by decide +kernel
theorem dX2_hour_98 : decode cX2_hour 98 = .ok (.iconst 1, 1) := by decide +kernel
theorem dX2_hour_99 : decode cX2_hour 99 = .ok (.iadd, 1) := by decide +kernel
theorem dX2_hour_100 : decode cX2_hour 100 = .ok (.putfield 31, 3) := by decide +kernel
theorem dX2_hour_103 : decode cX2_hour 103 = .ok (.aload_n 0, 1) := by decide +kernel
theorem dX2_hour_104 : decode cX2_hour 104 = .ok (.getfield 31, 3) := by decide +kernel
theorem dX2_hour_107 : decode cX2_hour 107 = .ok (.ireturn, 1) := by decide +kernel
theorem dX2_fair_0 : decode cX2_fair 0 = .ok (.aload_n 0, 1) := by decide +kernel
theorem dX2_fair_1 : decode cX2_fair 1 = .ok (.getfield 31, 3) := by decide +kernel
theorem dX2_fair_4 : decode cX2_fair 4 = .ok (.istore_n 1, 1) := by decide +kernel
theorem dX2_fair_5 : decode cX2_fair 5 = .ok (.aload_n 0, 1) := by decide +kernel
theorem dX2_fair_6 : decode cX2_fair 6 = .ok (.iconst 0, 1) := by decide +kernel
theorem dX2_fair_7 : decode cX2_fair 7 = .ok (.putfield 31, 3) := by decide +kernel
theorem dX2_fair_10 : decode cX2_fair 10 = .ok (.aload_n 0, 1) := by decide +kernel
theorem dX2_fair_11 : decode cX2_fair 11 = .ok (.iconst 0, 1) := by decide +kernel
theorem dX2_fair_12 : decode cX2_fair 12 = .ok (.putfield 35, 3) := by decide +kernel
theorem dX2_fair_15 : decode cX2_fair 15 = .ok (.iload_n 1, 1) := by decide +kernel
theorem dX2_fair_16 : decode cX2_fair 16 = .ok (.ireturn, 1) := by decide +kernel
theorem dX2_share_0 : decode cX2_share 0 = .ok (.iload_n 1, 1) := by decide +kernel
theorem dX2_share_1 : decode cX2_share 1 = .ok (.iconst 0, 1) := by decide +kernel
theorem dX2_share_2 : decode cX2_share 2 = .ok (.bipush 10, 2) := by decide +kernel
theorem dX2_share_4 : decode cX2_share 4 = .ok (.invokestatic 50, 3) := by decide +kernel
theorem dX2_share_7 : decode cX2_share 7 = .ok (.ifCond .ne 6, 3) := by decide +kernel
theorem dX2_share_10 : decode cX2_share 10 = .ok (.bipush (-102), 2) := by decide +kernel
theorem dX2_share_12 : decode cX2_share 12 = .ok (.ireturn, 1) := by decide +kernel
theorem dX2_share_13 : decode cX2_share 13 = .ok (.aload_n 0, 1) := by decide +kernel
theorem dX2_share_14 : decode cX2_share 14 = .ok (.getfield 38, 3) := by decide +kernel
theorem dX2_share_17 : decode cX2_share 17 = .ok (.istore_n 2, 1) := by decide +kernel
theorem dX2_share_18 : decode cX2_share 18 = .ok (.aload_n 0, 1) := by decide +kernel
theorem dX2_share_19 : decode cX2_share 19 = .ok (.iload_n 1, 1) := by decide +kernel
theorem dX2_share_20 : decode cX2_share 20 = .ok (.putfield 38, 3) := by decide +kernel
theorem dX2_share_23 : decode cX2_share 23 = .ok (.iload_n 2, 1) := by decide +kernel
theorem dX2_share_24 : decode cX2_share 24 = .ok (.ireturn, 1) := by decide +kernel
theorem dX2_pass_0 : decode cX2_pass 0 = .ok (.iload_n 1, 1) := by decide +kernel
theorem dX2_pass_1 : decode cX2_pass 1 = .ok (.iconst 1, 1) := by decide +kernel
theorem dX2_pass_2 : decode cX2_pass 2 = .ok (.sipush 240, 3) := by decide +kernel
theorem dX2_pass_5 : decode cX2_pass 5 = .ok (.invokestatic 50, 3) := by decide +kernel
theorem dX2_pass_8 : decode cX2_pass 8 = .ok (.ifCond .ne 6, 3) := by decide +kernel
theorem dX2_pass_11 : decode cX2_pass 11 = .ok (.bipush (-102), 2) := by decide +kernel
theorem dX2_pass_13 : decode cX2_pass 13 = .ok (.ireturn, 1) := by decide +kernel
theorem dX2_pass_14 : decode cX2_pass 14 = .ok (.aload_n 0, 1) := by decide +kernel
theorem dX2_pass_15 : decode cX2_pass 15 = .ok (.invokevirtual 91, 3) := by decide +kernel
theorem dX2_pass_18 : decode cX2_pass 18 = .ok (.ifCond .eq 6, 3) := by decide +kernel
theorem dX2_pass_21 : decode cX2_pass 21 = .ok (.bipush (-103), 2) := by decide +kernel
theorem dX2_pass_23 : decode cX2_pass 23 = .ok (.ireturn, 1) := by decide +kernel
theorem dX2_pass_24 : decode cX2_pass 24 = .ok (.iconst 0, 1) := by decide +kernel
theorem dX2_pass_25 : decode cX2_pass 25 = .ok (.istore_n 2, 1) := by decide +kernel
theorem dX2_pass_26 : decode cX2_pass 26 = .ok (.iload_n 2, 1) := by decide +kernel
theorem dX2_pass_27 : decode cX2_pass 27 = .ok (.iload_n 1, 1) := by decide +kernel
theorem dX2_pass_28 : decode cX2_pass 28 = .ok (.if_icmp .ge 41, 3) := by decide +kernel
theorem dX2_pass_31 : decode cX2_pass 31 = .ok (.aload_n 0, 1) := by decide +kernel
theorem dX2_pass_32 : decode cX2_pass 32 = .ok (.getfield 10, 3) := by decide +kernel
theorem dX2_pass_35 : decode cX2_pass 35 = .ok (.aload_n 0, 1) := by decide +kernel
theorem dX2_pass_36 : decode cX2_pass 36 = .ok (.getfield 28, 3) := by decide +kernel
theorem dX2_pass_39 : decode cX2_pass 39 = .ok (.aload_n 0, 1) := by decide +kernel
theorem dX2_pass_40 : decode cX2_pass 40 = .ok (.getfield 35, 3) := by decide +kernel
theorem dX2_pass_43 : decode cX2_pass 43 = .ok (.aaload, 1) := by decide +kernel
theorem dX2_pass_44 : decode cX2_pass 44 = .ok (.aload_n 0, 1) := by decide +kernel
theorem dX2_pass_45 : decode cX2_pass 45 = .ok (.getfield 38, 3) := by decide +kernel
theorem dX2_pass_48 : decode cX2_pass 48 = .ok (.invokevirtual 95, 3) := by decide +kernel
theorem dX2_pass_51 : decode cX2_pass 51 = .ok (.aload_n 0, 1) := by decide +kernel
theorem dX2_pass_52 : decode cX2_pass 52 = .ok (.aload_n 0, 1) := by decide +kernel
theorem dX2_pass_53 : decode cX2_pass 53 = .ok (.aload_n 0, 1) := by decide +kernel
theorem dX2_pass_54 : decode cX2_pass 54 = .ok (.getfield 35, 3) := by decide +kernel
theorem dX2_pass_57 : decode cX2_pass 57 = .ok (.invokevirtual 99, 3) := by decide +kernel
theorem dX2_pass_60 : decode cX2_pass 60 = .ok (.putfield 35, 3) := by decide +kernel
theorem dX2_pass_63 : decode cX2_pass 63 = .ok (.iinc 2 1, 3) := by decide +kernel
theorem dX2_pass_66 : decode cX2_pass 66 = .ok (.goto (-40), 3) := by decide +kernel
theorem dX2_pass_69 : decode cX2_pass 69 = .ok (.aload_n 0, 1) := by decide +kernel
theorem dX2_pass_70 : decode cX2_pass 70 = .ok (.getfield 35, 3) := by decide +kernel
theorem dX2_pass_73 : decode cX2_pass 73 = .ok (.ireturn, 1) := by decide +kernel
theorem dX2_steady_0 : decode cX2_steady 0 = .ok (.iload_n 1, 1) := by decide +kernel
theorem dX2_steady_1 : decode cX2_steady 1 = .ok (.iconst 1, 1) := by decide +kernel
theorem dX2_steady_2 : decode cX2_steady 2 = .ok (.bipush 60, 2) := by decide +kernel
theorem dX2_steady_4 : decode cX2_steady 4 = .ok (.invokestatic 50, 3) := by decide +kernel
theorem dX2_steady_7 : decode cX2_steady 7 = .ok (.ifCond .ne 6, 3) := by decide +kernel
theorem dX2_steady_10 : decode cX2_steady 10 = .ok (.bipush (-102), 2) := by decide +kernel
theorem dX2_steady_12 : decode cX2_steady 12 = .ok (.ireturn, 1) := by decide +kernel
theorem dX2_steady_13 : decode cX2_steady 13 = .ok (.aload_n 0, 1) := by decide +kernel
theorem dX2_steady_14 : decode cX2_steady 14 = .ok (.invokevirtual 91, 3) := by decide +kernel
theorem dX2_steady_17 : decode cX2_steady 17 = .ok (.ifCond .ne 10, 3) := by decide +kernel
theorem dX2_steady_20 : decode cX2_steady 20 = .ok (.aload_n 0, 1) := by decide +kernel
theorem dX2_steady_21 : decode cX2_steady 21 = .ok (.getfield 35, 3) := by decide +kernel
theorem dX2_steady_24 : decode cX2_steady 24 = .ok (.ifCond .eq 6, 3) := by decide +kernel
theorem dX2_steady_27 : decode cX2_steady 27 = .ok (.bipush (-103), 2) := by decide +kernel
theorem dX2_steady_29 : decode cX2_steady 29 = .ok (.ireturn, 1) := by decide +kernel
theorem dX2_steady_30 : decode cX2_steady 30 = .ok (.iconst 1, 1) := by decide +kernel
theorem dX2_steady_31 : decode cX2_steady 31 = .ok (.istore_n 2, 1) := by decide +kernel
theorem dX2_steady_32 : decode cX2_steady 32 = .ok (.iload_n 2, 1) := by decide +kernel
theorem dX2_steady_33 : decode cX2_steady 33 = .ok (.iload_n 1, 1) := by decide +kernel
theorem dX2_steady_34 : decode cX2_steady 34 = .ok (.if_icmp .gt 18, 3) := by decide +kernel
theorem dX2_steady_37 : decode cX2_steady 37 = .ok (.aload_n 0, 1) := by decide +kernel
theorem dX2_steady_38 : decode cX2_steady 38 = .ok (.invokevirtual 103, 3) := by decide +kernel
theorem dX2_steady_41 : decode cX2_steady 41 = .ok (.ifCond .eq 5, 3) := by decide +kernel
theorem dX2_steady_44 : decode cX2_steady 44 = .ok (.iload_n 2, 1) := by decide +kernel
theorem dX2_steady_45 : decode cX2_steady 45 = .ok (.ireturn, 1) := by decide +kernel
theorem dX2_steady_46 : decode cX2_steady 46 = .ok (.iinc 2 1, 3) := by decide +kernel
theorem dX2_steady_49 : decode cX2_steady 49 = .ok (.goto (-17), 3) := by decide +kernel
theorem dX2_steady_52 : decode cX2_steady 52 = .ok (.iconst (-1), 1) := by decide +kernel
theorem dX2_steady_53 : decode cX2_steady 53 = .ok (.ireturn, 1) := by decide +kernel
theorem dX2_sum_0 : decode cX2_sum 0 = .ok (.iload_n 1, 1) := by decide +kernel
theorem dX2_sum_1 : decode cX2_sum 1 = .ok (.iconst 0, 1) := by decide +kernel
theorem dX2_sum_2 : decode cX2_sum 2 = .ok (.iconst 4, 1) := by decide +kernel
theorem dX2_sum_3 : decode cX2_sum 3 = .ok (.invokestatic 50, 3) := by decide +kernel
theorem dX2_sum_6 : decode cX2_sum 6 = .ok (.ifCond .eq 15, 3) := by decide +kernel
theorem dX2_sum_9 : decode cX2_sum 9 = .ok (.aload_n 0, 1) := by decide +kernel
theorem dX2_sum_10 : decode cX2_sum 10 = .ok (.getfield 10, 3) := by decide +kernel
theorem dX2_sum_13 : decode cX2_sum 13 = .ok (.getfield 78, 3) := by decide +kernel
theorem dX2_sum_16 : decode cX2_sum 16 = .ok (.iload_n 1, 1) := by decide +kernel
theorem dX2_sum_17 : decode cX2_sum 17 = .ok (.iaload, 1) := by decide +kernel
theorem dX2_sum_18 : decode cX2_sum 18 = .ok (.goto 5, 3) := by decide +kernel
theorem dX2_sum_21 : decode cX2_sum 21 = .ok (.ldc 106, 2) := by decide +kernel
theorem dX2_sum_23 : decode cX2_sum 23 = .ok (.ireturn, 1) := by decide +kernel
theorem dX2_pressure_0 : decode cX2_pressure 0 = .ok (.aload_n 0, 1) := by decide +kernel
theorem dX2_pressure_1 : decode cX2_pressure 1 = .ok (.iload_n 1, 1) := by decide +kernel
theorem dX2_pressure_2 : decode cX2_pressure 2 = .ok (.iload_n 2, 1) := by decide +kernel
theorem dX2_pressure_3 : decode cX2_pressure 3 = .ok (.invokevirtual 107, 3) := by decide +kernel
theorem dX2_pressure_6 : decode cX2_pressure 6 = .ok (.istore_n 3, 1) := by decide +kernel
theorem dX2_pressure_7 : decode cX2_pressure 7 = .ok (.iload_n 3, 1) := by decide +kernel
theorem dX2_pressure_8 : decode cX2_pressure 8 = .ok (.ifCond .eq 7, 3) := by decide +kernel
theorem dX2_pressure_11 : decode cX2_pressure 11 = .ok (.iload_n 3, 1) := by decide +kernel
theorem dX2_pressure_12 : decode cX2_pressure 12 = .ok (.goto 21, 3) := by decide +kernel
theorem dX2_pressure_15 : decode cX2_pressure 15 = .ok (.aload_n 0, 1) := by decide +kernel
theorem dX2_pressure_16 : decode cX2_pressure 16 = .ok (.getfield 22, 3) := by decide +kernel
theorem dX2_pressure_19 : decode cX2_pressure 19 = .ok (.aload_n 0, 1) := by decide +kernel
theorem dX2_pressure_20 : decode cX2_pressure 20 = .ok (.getfield 10, 3) := by decide +kernel
theorem dX2_pressure_23 : decode cX2_pressure 23 = .ok (.aload_n 0, 1) := by decide +kernel
theorem dX2_pressure_24 : decode cX2_pressure 24 = .ok (.getfield 28, 3) := by decide +kernel
theorem dX2_pressure_27 : decode cX2_pressure 27 = .ok (.iload_n 1, 1) := by decide +kernel
theorem dX2_pressure_28 : decode cX2_pressure 28 = .ok (.aaload, 1) := by decide +kernel
theorem dX2_pressure_29 : decode cX2_pressure 29 = .ok (.iload_n 2, 1) := by decide +kernel
theorem dX2_pressure_30 : decode cX2_pressure 30 = .ok (.invokevirtual 110, 3) := by decide +kernel
theorem dX2_pressure_33 : decode cX2_pressure 33 = .ok (.ireturn, 1) := by decide +kernel
theorem dX2_warmth_0 : decode cX2_warmth 0 = .ok (.aload_n 0, 1) := by decide +kernel
theorem dX2_warmth_1 : decode cX2_warmth 1 = .ok (.iload_n 1, 1) := by decide +kernel
theorem dX2_warmth_2 : decode cX2_warmth 2 = .ok (.iload_n 2, 1) := by decide +kernel
theorem dX2_warmth_3 : decode cX2_warmth 3 = .ok (.invokevirtual 107, 3) := by decide +kernel
theorem dX2_warmth_6 : decode cX2_warmth 6 = .ok (.istore_n 3, 1) := by decide +kernel
theorem dX2_warmth_7 : decode cX2_warmth 7 = .ok (.iload_n 3, 1) := by decide +kernel
theorem dX2_warmth_8 : decode cX2_warmth 8 = .ok (.ifCond .eq 7, 3) := by decide +kernel
theorem dX2_warmth_11 : decode cX2_warmth 11 = .ok (.iload_n 3, 1) := by decide +kernel
theorem dX2_warmth_12 : decode cX2_warmth 12 = .ok (.goto 21, 3) := by decide +kernel
theorem dX2_warmth_15 : decode cX2_warmth 15 = .ok (.aload_n 0, 1) := by decide +kernel
theorem dX2_warmth_16 : decode cX2_warmth 16 = .ok (.getfield 22, 3) := by decide +kernel
theorem dX2_warmth_19 : decode cX2_warmth 19 = .ok (.aload_n 0, 1) := by decide +kernel
theorem dX2_warmth_20 : decode cX2_warmth 20 = .ok (.getfield 10, 3) := by decide +kernel
theorem dX2_warmth_23 : decode cX2_warmth 23 = .ok (.aload_n 0, 1) := by decide +kernel
theorem dX2_warmth_24 : decode cX2_warmth 24 = .ok (.getfield 28, 3) := by decide +kernel
theorem dX2_warmth_27 : decode cX2_warmth 27 = .ok (.iload_n 1, 1) := by decide +kernel
theorem dX2_warmth_28 : decode cX2_warmth 28 = .ok (.aaload, 1) := by decide +kernel
theorem dX2_warmth_29 : decode cX2_warmth 29 = .ok (.iload_n 2, 1) := by decide +kernel
theorem dX2_warmth_30 : decode cX2_warmth 30 = .ok (.invokevirtual 114, 3) := by decide +kernel
theorem dX2_warmth_33 : decode cX2_warmth 33 = .ok (.ireturn, 1) := by decide +kernel
theorem dX2_excess_0 : decode cX2_excess 0 = .ok (.aload_n 0, 1) := by decide +kernel
theorem dX2_excess_1 : decode cX2_excess 1 = .ok (.iload_n 1, 1) := by decide +kernel
theorem dX2_excess_2 : decode cX2_excess 2 = .ok (.invokevirtual 117, 3) := by decide +kernel
theorem dX2_excess_5 : decode cX2_excess 5 = .ok (.istore_n 3, 1) := by decide +kernel
theorem dX2_excess_6 : decode cX2_excess 6 = .ok (.iload_n 3, 1) := by decide +kernel
theorem dX2_excess_7 : decode cX2_excess 7 = .ok (.ifCond .eq 5, 3) := by decide +kernel
theorem dX2_excess_10 : decode cX2_excess 10 = .ok (.iload_n 3, 1) := by decide +kernel
theorem dX2_excess_11 : decode cX2_excess 11 = .ok (.ireturn, 1) := by decide +kernel
theorem dX2_excess_12 : decode cX2_excess 12 = .ok (.iload_n 2, 1) := by decide +kernel
theorem dX2_excess_13 : decode cX2_excess 13 = .ok (.iconst 1, 1) := by decide +kernel
theorem dX2_excess_14 : decode cX2_excess 14 = .ok (.aload_n 0, 1) := by decide +kernel
theorem dX2_excess_15 : decode cX2_excess 15 = .ok (.getfield 10, 3) := by decide +kernel
theorem dX2_excess_18 : decode cX2_excess 18 = .ok (.getfield 54, 3) := by decide +kernel
theorem dX2_excess_21 : decode cX2_excess 21 = .ok (.iconst 1, 1) := by decide +kernel
theorem dX2_excess_22 : decode cX2_excess 22 = .ok (.isub, 1) := by decide +kernel
theorem dX2_excess_23 : decode cX2_excess 23 = .ok (.invokestatic 50, 3) := by decide +kernel
theorem dX2_excess_26 : decode cX2_excess 26 = .ok (.ifCond .ne 6, 3) := by decide +kernel
theorem dX2_excess_29 : decode cX2_excess 29 = .ok (.bipush (-101), 2) := by decide +kernel
theorem dX2_excess_31 : decode cX2_excess 31 = .ok (.ireturn, 1) := by decide +kernel
theorem dX2_excess_32 : decode cX2_excess 32 = .ok (.aload_n 0, 1) := by decide +kernel
theorem dX2_excess_33 : decode cX2_excess 33 = .ok (.getfield 22, 3) := by decide +kernel
theorem dX2_excess_36 : decode cX2_excess 36 = .ok (.aload_n 0, 1) := by decide +kernel
theorem dX2_excess_37 : decode cX2_excess 37 = .ok (.getfield 10, 3) := by decide +kernel
theorem dX2_excess_40 : decode cX2_excess 40 = .ok (.aload_n 0, 1) := by decide +kernel
theorem dX2_excess_41 : decode cX2_excess 41 = .ok (.getfield 28, 3) := by decide +kernel
theorem dX2_excess_44 : decode cX2_excess 44 = .ok (.iload_n 1, 1) := by decide +kernel
theorem dX2_excess_45 : decode cX2_excess 45 = .ok (.aaload, 1) := by decide +kernel
theorem dX2_excess_46 : decode cX2_excess 46 = .ok (.iload_n 2, 1) := by decide +kernel
theorem dX2_excess_47 : decode cX2_excess 47 = .ok (.invokestatic 120, 3) := by decide +kernel
theorem dX2_excess_50 : decode cX2_excess 50 = .ok (.invokevirtual 123, 3) := by decide +kernel
theorem dX2_excess_53 : decode cX2_excess 53 = .ok (.ireturn, 1) := by decide +kernel
theorem dX2_best_0 : decode cX2_best 0 = .ok (.aload_n 0, 1) := by decide +kernel
theorem dX2_best_1 : decode cX2_best 1 = .ok (.iload_n 1, 1) := by decide +kernel
theorem dX2_best_2 : decode cX2_best 2 = .ok (.invokevirtual 117, 3) := by decide +kernel
theorem dX2_best_5 : decode cX2_best 5 = .ok (.istore_n 2, 1) := by decide +kernel
theorem dX2_best_6 : decode cX2_best 6 = .ok (.iload_n 2, 1) := by decide +kernel
theorem dX2_best_7 : decode cX2_best 7 = .ok (.ifCond .eq 5, 3) := by decide +kernel
theorem dX2_best_10 : decode cX2_best 10 = .ok (.iload_n 2, 1) := by decide +kernel
theorem dX2_best_11 : decode cX2_best 11 = .ok (.ireturn, 1) := by decide +kernel
theorem dX2_best_12 : decode cX2_best 12 = .ok (.aload_n 0, 1) := by decide +kernel
theorem dX2_best_13 : decode cX2_best 13 = .ok (.getfield 22, 3) := by decide +kernel
theorem dX2_best_16 : decode cX2_best 16 = .ok (.aload_n 0, 1) := by decide +kernel
theorem dX2_best_17 : decode cX2_best 17 = .ok (.getfield 10, 3) := by decide +kernel
theorem dX2_best_20 : decode cX2_best 20 = .ok (.aload_n 0, 1) := by decide +kernel
theorem dX2_best_21 : decode cX2_best 21 = .ok (.getfield 28, 3) := by decide +kernel
theorem dX2_best_24 : decode cX2_best 24 = .ok (.iload_n 1, 1) := by decide +kernel
theorem dX2_best_25 : decode cX2_best 25 = .ok (.aaload, 1) := by decide +kernel
theorem dX2_best_26 : decode cX2_best 26 = .ok (.invokevirtual 126, 3) := by decide +kernel
theorem dX2_best_29 : decode cX2_best 29 = .ok (.ireturn, 1) := by decide +kernel
theorem dX2_placed_0 : decode cX2_placed 0 = .ok (.aload_n 0, 1) := by decide +kernel
theorem dX2_placed_1 : decode cX2_placed 1 = .ok (.iload_n 1, 1) := by decide +kernel
theorem dX2_placed_2 : decode cX2_placed 2 = .ok (.invokevirtual 117, 3) := by decide +kernel
theorem dX2_placed_5 : decode cX2_placed 5 = .ok (.istore_n 3, 1) := by decide +kernel
theorem dX2_placed_6 : decode cX2_placed 6 = .ok (.iload_n 3, 1) := by decide +kernel
theorem dX2_placed_7 : decode cX2_placed 7 = .ok (.ifCond .eq 5, 3) := by decide +kernel
theorem dX2_placed_10 : decode cX2_placed 10 = .ok (.iload_n 3, 1) := by decide +kernel
theorem dX2_placed_11 : decode cX2_placed 11 = .ok (.ireturn, 1) := by decide +kernel
theorem dX2_placed_12 : decode cX2_placed 12 = .ok (.aload_n 0, 1) := by decide +kernel
theorem dX2_placed_13 : decode cX2_placed 13 = .ok (.getfield 10, 3) := by decide +kernel
theorem dX2_placed_16 : decode cX2_placed 16 = .ok (.iload_n 2, 1) := by decide +kernel
theorem dX2_placed_17 : decode cX2_placed 17 = .ok (.invokevirtual 67, 3) := by decide +kernel
theorem dX2_placed_20 : decode cX2_placed 20 = .ok (.ifCond .ne 5, 3) := by decide +kernel
theorem dX2_placed_23 : decode cX2_placed 23 = .ok (.iconst (-1), 1) := by decide +kernel
theorem dX2_placed_24 : decode cX2_placed 24 = .ok (.ireturn, 1) := by decide +kernel
theorem dX2_placed_25 : decode cX2_placed 25 = .ok (.aload_n 0, 1) := by decide +kernel
theorem dX2_placed_26 : decode cX2_placed 26 = .ok (.getfield 22, 3) := by decide +kernel
theorem dX2_placed_29 : decode cX2_placed 29 = .ok (.aload_n 0, 1) := by decide +kernel
theorem dX2_placed_30 : decode cX2_placed 30 = .ok (.getfield 10, 3) := by decide +kernel
theorem dX2_placed_33 : decode cX2_placed 33 = .ok (.aload_n 0, 1) := by decide +kernel
theorem dX2_placed_34 : decode cX2_placed 34 = .ok (.getfield 28, 3) := by decide +kernel
theorem dX2_placed_37 : decode cX2_placed 37 = .ok (.iload_n 1, 1) := by decide +kernel
theorem dX2_placed_38 : decode cX2_placed 38 = .ok (.aaload, 1) := by decide +kernel
theorem dX2_placed_39 : decode cX2_placed 39 = .ok (.invokevirtual 126, 3) := by decide +kernel
theorem dX2_placed_42 : decode cX2_placed 42 = .ok (.pop, 1) := by decide +kernel
theorem dX2_placed_43 : decode cX2_placed 43 = .ok (.aload_n 0, 1) := by decide +kernel
theorem dX2_placed_44 : decode cX2_placed 44 = .ok (.getfield 22, 3) := by decide +kernel
theorem dX2_placed_47 : decode cX2_placed 47 = .ok (.getfield 130, 3) := by decide +kernel
theorem dX2_placed_50 : decode cX2_placed 50 = .ok (.iload_n 2, 1) := by decide +kernel
theorem dX2_placed_51 : decode cX2_placed 51 = .ok (.iaload, 1) := by decide +kernel
theorem dX2_placed_52 : decode cX2_placed 52 = .ok (.ireturn, 1) := by decide +kernel
theorem dX2_arrange_0 : decode cX2_arrange 0 = .ok (.aload_n 0, 1) := by decide +kernel
theorem dX2_arrange_1 : decode cX2_arrange 1 = .ok (.iload_n 1, 1) := by decide +kernel
theorem dX2_arrange_2 : decode cX2_arrange 2 = .ok (.invokevirtual 117, 3) := by decide +kernel
theorem dX2_arrange_5 : decode cX2_arrange 5 = .ok (.istore_n 2, 1) := by decide +kernel
theorem dX2_arrange_6 : decode cX2_arrange 6 = .ok (.iload_n 2, 1) := by decide +kernel
theorem dX2_arrange_7 : decode cX2_arrange 7 = .ok (.ifCond .eq 5, 3) := by decide +kernel
theorem dX2_arrange_10 : decode cX2_arrange 10 = .ok (.iload_n 2, 1) := by decide +kernel
theorem dX2_arrange_11 : decode cX2_arrange 11 = .ok (.ireturn, 1) := by decide +kernel
theorem dX2_arrange_12 : decode cX2_arrange 12 = .ok (.aload_n 0, 1) := by decide +kernel
theorem dX2_arrange_13 : decode cX2_arrange 13 = .ok (.getfield 22, 3) := by decide +kernel
theorem dX2_arrange_16 : decode cX2_arrange 16 = .ok (.aload_n 0, 1) := by decide +kernel
theorem dX2_arrange_17 : decode cX2_arrange 17 = .ok (.getfield 10, 3) := by decide +kernel
theorem dX2_arrange_20 : decode cX2_arrange 20 = .ok (.aload_n 0, 1) := by decide +kernel
theorem dX2_arrange_21 : decode cX2_arrange 21 = .ok (.getfield 28, 3) := by decide +kernel
theorem dX2_arrange_24 : decode cX2_arrange 24 = .ok (.iload_n 1, 1) := by decide +kernel
theorem dX2_arrange_25 : decode cX2_arrange 25 = .ok (.aaload, 1) := by decide +kernel
theorem dX2_arrange_26 : decode cX2_arrange 26 = .ok (.invokevirtual 126, 3) := by decide +kernel
theorem dX2_arrange_29 : decode cX2_arrange 29 = .ok (.pop, 1) := by decide +kernel
theorem dX2_arrange_30 : decode cX2_arrange 30 = .ok (.aload_n 0, 1) := by decide +kernel
theorem dX2_arrange_31 : decode cX2_arrange 31 = .ok (.getfield 10, 3) := by decide +kernel
theorem dX2_arrange_34 : decode cX2_arrange 34 = .ok (.aload_n 0, 1) := by decide +kernel
theorem dX2_arrange_35 : decode cX2_arrange 35 = .ok (.getfield 22, 3) := by decide +kernel
theorem dX2_arrange_38 : decode cX2_arrange 38 = .ok (.getfield 130, 3) := by decide +kernel
theorem dX2_arrange_41 : decode cX2_arrange 41 = .ok (.invokevirtual 133, 3) := by decide +kernel
theorem dX2_arrange_44 : decode cX2_arrange 44 = .ok (.iconst 0, 1) := by decide +kernel
theorem dX2_arrange_45 : decode cX2_arrange 45 = .ok (.istore_n 3, 1) := by decide +kernel
theorem dX2_arrange_46 : decode cX2_arrange 46 = .ok (.iconst 0, 1) := by decide +kernel
theorem dX2_arrange_47 : decode cX2_arrange 47 = .ok (.istore 4, 2) := by decide +kernel
theorem dX2_arrange_49 : decode cX2_arrange 49 = .ok (.iload 4, 2) := by decide +kernel
theorem dX2_arrange_51 : decode cX2_arrange 51 = .ok (.aload_n 0, 1) := by decide +kernel
theorem dX2_arrange_52 : decode cX2_arrange 52 = .ok (.getfield 10, 3) := by decide +kernel
theorem dX2_arrange_55 : decode cX2_arrange 55 = .ok (.getfield 54, 3) := by decide +kernel
theorem dX2_arrange_58 : decode cX2_arrange 58 = .ok (.if_icmp .ge 27, 3) := by decide +kernel
theorem dX2_arrange_61 : decode cX2_arrange 61 = .ok (.aload_n 0, 1) := by decide +kernel
theorem dX2_arrange_62 : decode cX2_arrange 62 = .ok (.getfield 22, 3) := by decide +kernel
theorem dX2_arrange_65 : decode cX2_arrange 65 = .ok (.getfield 130, 3) := by decide +kernel
theorem dX2_arrange_68 : decode cX2_arrange 68 = .ok (.iload 4, 2) := by decide +kernel
theorem dX2_arrange_70 : decode cX2_arrange 70 = .ok (.iaload, 1) := by decide +kernel
theorem dX2_arrange_71 : decode cX2_arrange 71 = .ok (.iload 4, 2) := by decide +kernel
theorem dX2_arrange_73 : decode cX2_arrange 73 = .ok (.if_icmp .eq 6, 3) := by decide +kernel
theorem dX2_arrange_76 : decode cX2_arrange 76 = .ok (.iinc 3 1, 3) := by decide +kernel
theorem dX2_arrange_79 : decode cX2_arrange 79 = .ok (.iinc 4 1, 3) := by decide +kernel
theorem dX2_arrange_82 : decode cX2_arrange 82 = .ok (.goto (-33), 3) := by decide +kernel
theorem dX2_arrange_85 : decode cX2_arrange 85 = .ok (.iload_n 3, 1) := by decide +kernel
theorem dX2_arrange_86 : decode cX2_arrange 86 = .ok (.ireturn, 1) := by decide +kernel
theorem dX2_read_0 : decode cX2_read 0 = .ok (.aload_n 0, 1) := by decide +kernel
theorem dX2_read_1 : decode cX2_read 1 = .ok (.getfield 10, 3) := by decide +kernel
theorem dX2_read_4 : decode cX2_read 4 = .ok (.iload_n 1, 1) := by decide +kernel
theorem dX2_read_5 : decode cX2_read 5 = .ok (.invokevirtual 67, 3) := by decide +kernel
theorem dX2_read_8 : decode cX2_read 8 = .ok (.ifCond .ne 6, 3) := by decide +kernel
theorem dX2_read_11 : decode cX2_read 11 = .ok (.bipush (-101), 2) := by decide +kernel
theorem dX2_read_13 : decode cX2_read 13 = .ok (.ireturn, 1) := by decide +kernel
theorem dX2_read_14 : decode cX2_read 14 = .ok (.iload_n 2, 1) := by decide +kernel
theorem dX2_read_15 : decode cX2_read 15 = .ok (.iconst 1, 1) := by decide +kernel
theorem dX2_read_16 : decode cX2_read 16 = .ok (.bipush 100, 2) := by decide +kernel
theorem dX2_read_18 : decode cX2_read 18 = .ok (.invokestatic 50, 3) := by decide +kernel
theorem dX2_read_21 : decode cX2_read 21 = .ok (.ifCond .eq 24, 3) := by decide +kernel
theorem dX2_read_24 : decode cX2_read 24 = .ok (.iload_n 3, 1) := by decide +kernel
theorem dX2_read_25 : decode cX2_read 25 = .ok (.invokestatic 85, 3) := by decide +kernel
theorem dX2_read_28 : decode cX2_read 28 = .ok (.ifCond .eq 17, 3) := by decide +kernel
theorem dX2_read_31 : decode cX2_read 31 = .ok (.iload 4, 2) := by decide +kernel
theorem dX2_read_33 : decode cX2_read 33 = .ok (.invokestatic 85, 3) := by decide +kernel
theorem dX2_read_36 : decode cX2_read 36 = .ok (.ifCond .eq 9, 3) := by decide +kernel
theorem dX2_read_39 : decode cX2_read 39 = .ok (.iload_n 3, 1) := by decide +kernel
theorem dX2_read_40 : decode cX2_read 40 = .ok (.iload 4, 2) := by decide +kernel
theorem dX2_read_42 : decode cX2_read 42 = .ok (.if_icmp .le 6, 3) := by decide +kernel
theorem dX2_read_45 : decode cX2_read 45 = .ok (.bipush (-102), 2) := by decide +kernel
theorem dX2_read_47 : decode cX2_read 47 = .ok (.ireturn, 1) := by decide +kernel
theorem dX2_read_48 : decode cX2_read 48 = .ok (.aload_n 0, 1) := by decide +kernel
theorem dX2_read_49 : decode cX2_read 49 = .ok (.getfield 44, 3) := by decide +kernel
theorem dX2_read_52 : decode cX2_read 52 = .ok (.bipush 12, 2) := by decide +kernel
theorem dX2_read_54 : decode cX2_read 54 = .ok (.if_icmp .lt 6, 3) := by decide +kernel
theorem dX2_read_57 : decode cX2_read 57 = .ok (.bipush (-104), 2) := by decide +kernel
theorem dX2_read_59 : decode cX2_read 59 = .ok (.ireturn, 1) := by decide +kernel
theorem dX2_read_60 : decode cX2_read 60 = .ok (.aload_n 0, 1) := by decide +kernel
theorem dX2_read_61 : decode cX2_read 61 = .ok (.getfield 41, 3) := by decide +kernel
theorem dX2_read_64 : decode cX2_read 64 = .ok (.aload_n 0, 1) := by decide +kernel
theorem dX2_read_65 : decode cX2_read 65 = .ok (.getfield 44, 3) := by decide +kernel
theorem dX2_read_68 : decode cX2_read 68 = .ok (.aaload, 1) := by decide +kernel
theorem dX2_read_69 : decode cX2_read 69 = .ok (.astore 5, 2) := by decide +kernel
theorem dX2_read_71 : decode cX2_read 71 = .ok (.aload 5, 2) := by decide +kernel
theorem dX2_read_73 : decode cX2_read 73 = .ok (.iconst 0, 1) := by decide +kernel
theorem dX2_read_74 : decode cX2_read 74 = .ok (.iload_n 1, 1) := by decide +kernel
theorem dX2_read_75 : decode cX2_read 75 = .ok (.iastore, 1) := by decide +kernel
theorem dX2_read_76 : decode cX2_read 76 = .ok (.aload 5, 2) := by decide +kernel
theorem dX2_read_78 : decode cX2_read 78 = .ok (.iconst 1, 1) := by decide +kernel
theorem dX2_read_79 : decode cX2_read 79 = .ok (.iload_n 2, 1) := by decide +kernel
theorem dX2_read_80 : decode cX2_read 80 = .ok (.iastore, 1) := by decide +kernel
theorem dX2_read_81 : decode cX2_read 81 = .ok (.aload 5, 2) := by decide +kernel
theorem dX2_read_83 : decode cX2_read 83 = .ok (.iconst 2, 1) := by decide +kernel
theorem dX2_read_84 : decode cX2_read 84 = .ok (.iload_n 3, 1) := by decide +kernel
theorem dX2_read_85 : decode cX2_read 85 = .ok (.iastore, 1) := by decide +kernel
theorem dX2_read_86 : decode cX2_read 86 = .ok (.aload 5, 2) := by decide +kernel
theorem dX2_read_88 : decode cX2_read 88 = .ok (.iconst 3, 1) := by decide +kernel
theorem dX2_read_89 : decode cX2_read 89 = .ok (.iload 4, 2) := by decide +kernel
theorem dX2_read_91 : decode cX2_read 91 = .ok (.iastore, 1) := by decide +kernel
theorem dX2_read_92 : decode cX2_read 92 = .ok (.aload_n 0, 1) := by decide +kernel
theorem dX2_read_93 : decode cX2_read 93 = .ok (.dup, 1) := by decide +kernel
theorem dX2_read_94 : decode cX2_read 94 = .ok (.getfield 44, 3) := by decide +kernel
theorem dX2_read_97 : decode cX2_read 97 = .ok (.iconst 1, 1) := by decide +kernel
theorem dX2_read_98 : decode cX2_read 98 = .ok (.iadd, 1) := by decide +kernel
theorem dX2_read_99 : decode cX2_read 99 = .ok (.putfield 44, 3) := by decide +kernel
theorem dX2_read_102 : decode cX2_read 102 = .ok (.aload_n 0, 1) := by decide +kernel
theorem dX2_read_103 : decode cX2_read 103 = .ok (.getfield 44, 3) := by decide +kernel
theorem dX2_read_106 : decode cX2_read 106 = .ok (.ireturn, 1) := by decide +kernel
theorem dX2_forget_0 : decode cX2_forget 0 = .ok (.aload_n 0, 1) := by decide +kernel
theorem dX2_forget_1 : decode cX2_forget 1 = .ok (.getfield 44, 3) := by decide +kernel
theorem dX2_forget_4 : decode cX2_forget 4 = .ok (.istore_n 1, 1) := by decide +kernel
theorem dX2_forget_5 : decode cX2_forget 5 = .ok (.aload_n 0, 1) := by decide +kernel
theorem dX2_forget_6 : decode cX2_forget 6 = .ok (.iconst 0, 1) := by decide +kernel
theorem dX2_forget_7 : decode cX2_forget 7 = .ok (.putfield 44, 3) := by decide +kernel
theorem dX2_forget_10 : decode cX2_forget 10 = .ok (.iload_n 1, 1) := by decide +kernel
theorem dX2_forget_11 : decode cX2_forget 11 = .ok (.ireturn, 1) := by decide +kernel
theorem dX2_fits_0 : decode cX2_fits 0 = .ok (.aload_n 0, 1) := by decide +kernel
theorem dX2_fits_1 : decode cX2_fits 1 = .ok (.invokevirtual 91, 3) := by decide +kernel
theorem dX2_fits_4 : decode cX2_fits 4 = .ok (.ifCond .ne 12, 3) := by decide +kernel
theorem dX2_fits_7 : decode cX2_fits 7 = .ok (.aload_n 0, 1) := by decide +kernel
theorem dX2_fits_8 : decode cX2_fits 8 = .ok (.getfield 47, 3) := by decide +kernel
theorem dX2_fits_11 : decode cX2_fits 11 = .ok (.bipush 30, 2) := by decide +kernel
theorem dX2_fits_13 : decode cX2_fits 13 = .ok (.if_icmp .lt 6, 3) := by decide +kernel
theorem dX2_fits_16 : decode cX2_fits 16 = .ok (.bipush (-103), 2) := by decide +kernel
theorem dX2_fits_18 : decode cX2_fits 18 = .ok (.ireturn, 1) := by decide +kernel
theorem dX2_fits_19 : decode cX2_fits 19 = .ok (.aload_n 0, 1) := by decide +kernel
theorem dX2_fits_20 : decode cX2_fits 20 = .ok (.dup, 1) := by decide +kernel
theorem dX2_fits_21 : decode cX2_fits 21 = .ok (.getfield 47, 3) := by decide +kernel
theorem dX2_fits_24 : decode cX2_fits 24 = .ok (.iconst 1, 1) := by decide +kernel
theorem dX2_fits_25 : decode cX2_fits 25 = .ok (.iadd, 1) := by decide +kernel
theorem dX2_fits_26 : decode cX2_fits 26 = .ok (.putfield 47, 3) := by decide +kernel
theorem dX2_fits_29 : decode cX2_fits 29 = .ok (.aload_n 0, 1) := by decide +kernel
theorem dX2_fits_30 : decode cX2_fits 30 = .ok (.invokevirtual 137, 3) := by decide +kernel
theorem dX2_fits_33 : decode cX2_fits 33 = .ok (.istore_n 1, 1) := by decide +kernel
theorem dX2_fits_34 : decode cX2_fits 34 = .ok (.iconst 0, 1) := by decide +kernel
theorem dX2_fits_35 : decode cX2_fits 35 = .ok (.istore_n 2, 1) := by decide +kernel
theorem dX2_fits_36 : decode cX2_fits 36 = .ok (.iconst 0, 1) := by decide +kernel
theorem dX2_fits_37 : decode cX2_fits 37 = .ok (.istore_n 3, 1) := by decide +kernel
theorem dX2_fits_38 : decode cX2_fits 38 = .ok (.iload_n 3, 1) := by decide +kernel
theorem dX2_fits_39 : decode cX2_fits 39 = .ok (.bipush 10, 2) := by decide +kernel
theorem dX2_fits_41 : decode cX2_fits 41 = .ok (.if_icmp .gt 24, 3) := by decide +kernel
theorem dX2_fits_44 : decode cX2_fits 44 = .ok (.aload_n 0, 1) := by decide +kernel
theorem dX2_fits_45 : decode cX2_fits 45 = .ok (.iload_n 3, 1) := by decide +kernel
theorem dX2_fits_46 : decode cX2_fits 46 = .ok (.iload_n 1, 1) := by decide +kernel
theorem dX2_fits_47 : decode cX2_fits 47 = .ok (.invokevirtual 141, 3) := by decide +kernel
theorem dX2_fits_50 : decode cX2_fits 50 = .ok (.ifCond .eq 9, 3) := by decide +kernel
theorem dX2_fits_53 : decode cX2_fits 53 = .ok (.iload_n 2, 1) := by decide +kernel
theorem dX2_fits_54 : decode cX2_fits 54 = .ok (.iconst 1, 1) := by decide +kernel
theorem dX2_fits_55 : decode cX2_fits 55 = .ok (.iload_n 3, 1) := by decide +kernel
theorem dX2_fits_56 : decode cX2_fits 56 = .ok (.ishl, 1) := by decide +kernel
theorem dX2_fits_57 : decode cX2_fits 57 = .ok (.ior, 1) := by decide +kernel
theorem dX2_fits_58 : decode cX2_fits 58 = .ok (.istore_n 2, 1) := by decide +kernel
theorem dX2_fits_59 : decode cX2_fits 59 = .ok (.iinc 3 1, 3) := by decide +kernel
theorem dX2_fits_62 : decode cX2_fits 62 = .ok (.goto (-24), 3) := by decide +kernel
theorem dX2_fits_65 : decode cX2_fits 65 = .ok (.iload_n 2, 1) := by decide +kernel
theorem dX2_fits_66 : decode cX2_fits 66 = .ok (.ireturn, 1) := by decide +kernel
theorem dX2_count_0 : decode cX2_count 0 = .ok (.iload_n 1, 1) := by decide +kernel
theorem dX2_count_1 : decode cX2_count 1 = .ok (.iconst 0, 1) := by decide +kernel
theorem dX2_count_2 : decode cX2_count 2 = .ok (.bipush 6, 2) := by decide +kernel
theorem dX2_count_4 : decode cX2_count 4 = .ok (.invokestatic 50, 3) := by decide +kernel
theorem dX2_count_7 : decode cX2_count 7 = .ok (.ifCond .eq 11, 3) := by decide +kernel
theorem dX2_count_10 : decode cX2_count 10 = .ok (.aload_n 0, 1) := by decide +kernel
theorem dX2_count_11 : decode cX2_count 11 = .ok (.iload_n 1, 1) := by decide +kernel
theorem dX2_count_12 : decode cX2_count 12 = .ok (.invokevirtual 145, 3) := by decide +kernel
theorem dX2_count_15 : decode cX2_count 15 = .ok (.goto 5, 3) := by decide +kernel
theorem dX2_count_18 : decode cX2_count 18 = .ok (.bipush (-102), 2) := by decide +kernel
theorem dX2_count_20 : decode cX2_count 20 = .ok (.ireturn, 1) := by decide +kernel
theorem dX2_digest_0 : decode cX2_digest 0 = .ok (.ldc2_w 148, 3) := by decide +kernel
theorem dX2_digest_3 : decode cX2_digest 3 = .ok (.lstore_n 1, 1) := by decide +kernel
theorem dX2_digest_4 : decode cX2_digest 4 = .ok (.iconst 0, 1) := by decide +kernel
theorem dX2_digest_5 : decode cX2_digest 5 = .ok (.istore_n 3, 1) := by decide +kernel
theorem dX2_digest_6 : decode cX2_digest 6 = .ok (.iload_n 3, 1) := by decide +kernel
theorem dX2_digest_7 : decode cX2_digest 7 = .ok (.iconst 3, 1) := by decide +kernel
theorem dX2_digest_8 : decode cX2_digest 8 = .ok (.if_icmp .ge 24, 3) := by decide +kernel
theorem dX2_digest_11 : decode cX2_digest 11 = .ok (.lload_n 1, 1) := by decide +kernel
theorem dX2_digest_12 : decode cX2_digest 12 = .ok (.aload_n 0, 1) := by decide +kernel
theorem dX2_digest_13 : decode cX2_digest 13 = .ok (.getfield 10, 3) := by decide +kernel
theorem dX2_digest_16 : decode cX2_digest 16 = .ok (.getfield 64, 3) := by decide +kernel
theorem dX2_digest_19 : decode cX2_digest 19 = .ok (.iload_n 3, 1) := by decide +kernel
theorem dX2_digest_20 : decode cX2_digest 20 = .ok (.aaload, 1) := by decide +kernel
theorem dX2_digest_21 : decode cX2_digest 21 = .ok (.iconst 5, 1) := by decide +kernel
theorem dX2_digest_22 : decode cX2_digest 22 = .ok (.invokestatic 150, 3) := by decide +kernel
theorem dX2_digest_25 : decode cX2_digest 25 = .ok (.lstore_n 1, 1) := by decide +kernel
theorem dX2_digest_26 : decode cX2_digest 26 = .ok (.iinc 3 1, 3) := by decide +kernel
theorem dX2_digest_29 : decode cX2_digest 29 = .ok (.goto (-23), 3) := by decide +kernel
theorem dX2_digest_32 : decode cX2_digest 32 = .ok (.iconst 0, 1) := by decide +kernel
theorem dX2_digest_33 : decode cX2_digest 33 = .ok (.istore_n 3, 1) := by decide +kernel
theorem dX2_digest_34 : decode cX2_digest 34 = .ok (.iload_n 3, 1) := by decide +kernel
theorem dX2_digest_35 : decode cX2_digest 35 = .ok (.aload_n 0, 1) := by decide +kernel
theorem dX2_digest_36 : decode cX2_digest 36 = .ok (.getfield 10, 3) := by decide +kernel
theorem dX2_digest_39 : decode cX2_digest 39 = .ok (.getfield 54, 3) := by decide +kernel
theorem dX2_digest_42 : decode cX2_digest 42 = .ok (.if_icmp .ge 41, 3) := by decide +kernel
theorem dX2_digest_45 : decode cX2_digest 45 = .ok (.iconst 0, 1) := by decide +kernel
theorem dX2_digest_46 : decode cX2_digest 46 = .ok (.istore 4, 2) := by decide +kernel
theorem dX2_digest_48 : decode cX2_digest 48 = .ok (.iload 4, 2) := by decide +kernel
theorem dX2_digest_50 : decode cX2_digest 50 = .ok (.bipush 9, 2) := by decide +kernel
theorem dX2_digest_52 : decode cX2_digest 52 = .ok (.if_icmp .ge 25, 3) := by decide +kernel
theorem dX2_digest_55 : decode cX2_digest 55 = .ok (.lload_n 1, 1) := by decide +kernel
theorem dX2_digest_56 : decode cX2_digest 56 = .ok (.aload_n 0, 1) := by decide +kernel
theorem dX2_digest_57 : decode cX2_digest 57 = .ok (.getfield 10, 3) := by decide +kernel
theorem dX2_digest_60 : decode cX2_digest 60 = .ok (.iload_n 3, 1) := by decide +kernel
theorem dX2_digest_61 : decode cX2_digest 61 = .ok (.iload 4, 2) := by decide +kernel
theorem dX2_digest_63 : decode cX2_digest 63 = .ok (.invokevirtual 81, 3) := by decide +kernel
theorem dX2_digest_66 : decode cX2_digest 66 = .ok (.i2l, 1) := by decide +kernel
theorem dX2_digest_67 : decode cX2_digest 67 = .ok (.invokestatic 154, 3) := by decide +kernel
theorem dX2_digest_70 : decode cX2_digest 70 = .ok (.lstore_n 1, 1) := by decide +kernel
theorem dX2_digest_71 : decode cX2_digest 71 = .ok (.iinc 4 1, 3) := by decide +kernel
theorem dX2_digest_74 : decode cX2_digest 74 = .ok (.goto (-26), 3) := by decide +kernel
theorem dX2_digest_77 : decode cX2_digest 77 = .ok (.iinc 3 1, 3) := by decide +kernel
theorem dX2_digest_80 : decode cX2_digest 80 = .ok (.goto (-46), 3) := by decide +kernel
theorem dX2_digest_83 : decode cX2_digest 83 = .ok (.iconst 0, 1) := by decide +kernel
theorem dX2_digest_84 : decode cX2_digest 84 = .ok (.istore_n 3, 1) := by decide +kernel
theorem dX2_digest_85 : decode cX2_digest 85 = .ok (.iload_n 3, 1) := by decide +kernel
theorem dX2_digest_86 : decode cX2_digest 86 = .ok (.aload_n 0, 1) := by decide +kernel
theorem dX2_digest_87 : decode cX2_digest 87 = .ok (.getfield 31, 3) := by decide +kernel
theorem dX2_digest_90 : decode cX2_digest 90 = .ok (.if_icmp .ge 21, 3) := by decide +kernel
theorem dX2_digest_93 : decode cX2_digest 93 = .ok (.lload_n 1, 1) := by decide +kernel
theorem dX2_digest_94 : decode cX2_digest 94 = .ok (.aload_n 0, 1) := by decide +kernel
theorem dX2_digest_95 : decode cX2_digest 95 = .ok (.getfield 28, 3) := by decide +kernel
theorem dX2_digest_98 : decode cX2_digest 98 = .ok (.iload_n 3, 1) := by decide +kernel
theorem dX2_digest_99 : decode cX2_digest 99 = .ok (.aaload, 1) := by decide +kernel
theorem dX2_digest_100 : decode cX2_digest 100 = .ok (.iconst 5, 1) := by decide +kernel
theorem dX2_digest_101 : decode cX2_digest 101 = .ok (.invokestatic 150, 3) := by decide +kernel
theorem dX2_digest_104 : decode cX2_digest 104 = .ok (.lstore_n 1, 1) := by decide +kernel
theorem dX2_digest_105 : decode cX2_digest 105 = .ok (.iinc 3 1, 3) := by decide +kernel
theorem dX2_digest_108 : decode cX2_digest 108 = .ok (.goto (-23), 3) := by decide +kernel
theorem dX2_digest_111 : decode cX2_digest 111 = .ok (.lload_n 1, 1) := by decide +kernel
theorem dX2_digest_112 : decode cX2_digest 112 = .ok (.aload_n 0, 1) := by decide +kernel
theorem dX2_digest_113 : decode cX2_digest 113 = .ok (.getfield 10, 3) := by decide +kernel
theorem dX2_digest_116 : decode cX2_digest 116 = .ok (.getfield 78, 3) := by decide +kernel
theorem dX2_digest_119 : decode cX2_digest 119 = .ok (.iconst 5, 1) := by decide +kernel
theorem dX2_digest_120 : decode cX2_digest 120 = .ok (.invokestatic 150, 3) := by decide +kernel
theorem dX2_digest_123 : decode cX2_digest 123 = .ok (.lstore_n 1, 1) := by decide +kernel
theorem dX2_digest_124 : decode cX2_digest 124 = .ok (.iconst 0, 1) := by decide +kernel
theorem dX2_digest_125 : decode cX2_digest 125 = .ok (.istore_n 3, 1) := by decide +kernel
theorem dX2_digest_126 : decode cX2_digest 126 = .ok (.iload_n 3, 1) := by decide +kernel
theorem dX2_digest_127 : decode cX2_digest 127 = .ok (.aload_n 0, 1) := by decide +kernel
theorem dX2_digest_128 : decode cX2_digest 128 = .ok (.getfield 44, 3) := by decide +kernel
theorem dX2_digest_131 : decode cX2_digest 131 = .ok (.if_icmp .ge 21, 3) := by decide +kernel
theorem dX2_digest_134 : decode cX2_digest 134 = .ok (.lload_n 1, 1) := by decide +kernel
theorem dX2_digest_135 : decode cX2_digest 135 = .ok (.aload_n 0, 1) := by decide +kernel
theorem dX2_digest_136 : decode cX2_digest 136 = .ok (.getfield 41, 3) := by decide +kernel
theorem dX2_digest_139 : decode cX2_digest 139 = .ok (.iload_n 3, 1) := by decide +kernel
theorem dX2_digest_140 : decode cX2_digest 140 = .ok (.aaload, 1) := by decide +kernel
theorem dX2_digest_141 : decode cX2_digest 141 = .ok (.iconst 4, 1) := by decide +kernel
theorem dX2_digest_142 : decode cX2_digest 142 = .ok (.invokestatic 150, 3) := by decide +kernel
theorem dX2_digest_145 : decode cX2_digest 145 = .ok (.lstore_n 1, 1) := by decide +kernel
theorem dX2_digest_146 : decode cX2_digest 146 = .ok (.iinc 3 1, 3) := by decide +kernel
theorem dX2_digest_149 : decode cX2_digest 149 = .ok (.goto (-23), 3) := by decide +kernel
theorem dX2_digest_152 : decode cX2_digest 152 = .ok (.lload_n 1, 1) := by decide +kernel
theorem dX2_digest_153 : decode cX2_digest 153 = .ok (.aload_n 0, 1) := by decide +kernel
theorem dX2_digest_154 : decode cX2_digest 154 = .ok (.getfield 35, 3) := by decide +kernel
theorem dX2_digest_157 : decode cX2_digest 157 = .ok (.i2l, 1) := by decide +kernel
theorem dX2_digest_158 : decode cX2_digest 158 = .ok (.invokestatic 154, 3) := by decide +kernel
theorem dX2_digest_161 : decode cX2_digest 161 = .ok (.lstore_n 1, 1) := by decide +kernel
theorem dX2_digest_162 : decode cX2_digest 162 = .ok (.lload_n 1, 1) := by decide +kernel
theorem dX2_digest_163 : decode cX2_digest 163 = .ok (.aload_n 0, 1) := by decide +kernel
theorem dX2_digest_164 : decode cX2_digest 164 = .ok (.getfield 38, 3) := by decide +kernel
theorem dX2_digest_167 : decode cX2_digest 167 = .ok (.i2l, 1) := by decide +kernel
theorem dX2_digest_168 : decode cX2_digest 168 = .ok (.invokestatic 154, 3) := by decide +kernel
theorem dX2_digest_171 : decode cX2_digest 171 = .ok (.lstore_n 1, 1) := by decide +kernel
theorem dX2_digest_172 : decode cX2_digest 172 = .ok (.lload_n 1, 1) := by decide +kernel
theorem dX2_digest_173 : decode cX2_digest 173 = .ok (.aload_n 0, 1) := by decide +kernel
theorem dX2_digest_174 : decode cX2_digest 174 = .ok (.getfield 47, 3) := by decide +kernel
theorem dX2_digest_177 : decode cX2_digest 177 = .ok (.i2l, 1) := by decide +kernel
theorem dX2_digest_178 : decode cX2_digest 178 = .ok (.invokestatic 154, 3) := by decide +kernel
theorem dX2_digest_181 : decode cX2_digest 181 = .ok (.lreturn, 1) := by decide +kernel
theorem dX2_within_0 : decode cX2_within 0 = .ok (.iload_n 0, 1) := by decide +kernel
theorem dX2_within_1 : decode cX2_within 1 = .ok (.iload_n 1, 1) := by decide +kernel
theorem dX2_within_2 : decode cX2_within 2 = .ok (.if_icmp .lt 12, 3) := by decide +kernel
theorem dX2_within_5 : decode cX2_within 5 = .ok (.iload_n 0, 1) := by decide +kernel
theorem dX2_within_6 : decode cX2_within 6 = .ok (.iload_n 2, 1) := by decide +kernel
theorem dX2_within_7 : decode cX2_within 7 = .ok (.if_icmp .gt 7, 3) := by decide +kernel
theorem dX2_within_10 : decode cX2_within 10 = .ok (.iconst 1, 1) := by decide +kernel
theorem dX2_within_11 : decode cX2_within 11 = .ok (.goto 4, 3) := by decide +kernel
theorem dX2_within_14 : decode cX2_within 14 = .ok (.iconst 0, 1) := by decide +kernel
theorem dX2_within_15 : decode cX2_within 15 = .ok (.ireturn, 1) := by decide +kernel
theorem dX2_isDamp_0 : decode cX2_isDamp 0 = .ok (.iload_n 0, 1) := by decide +kernel
theorem dX2_isDamp_1 : decode cX2_isDamp 1 = .ok (.iconst 0, 1) := by decide +kernel
theorem dX2_isDamp_2 : decode cX2_isDamp 2 = .ok (.sipush 1000, 3) := by decide +kernel
theorem dX2_isDamp_5 : decode cX2_isDamp 5 = .ok (.invokestatic 50, 3) := by decide +kernel
theorem dX2_isDamp_8 : decode cX2_isDamp 8 = .ok (.ireturn, 1) := by decide +kernel
theorem dX2_isWarmth_0 : decode cX2_isWarmth 0 = .ok (.iload_n 0, 1) := by decide +kernel
theorem dX2_isWarmth_1 : decode cX2_isWarmth 1 = .ok (.bipush (-30), 2) := by decide +kernel
theorem dX2_isWarmth_3 : decode cX2_isWarmth 3 = .ok (.bipush 50, 2) := by decide +kernel
theorem dX2_isWarmth_5 : decode cX2_isWarmth 5 = .ok (.invokestatic 50, 3) := by decide +kernel
theorem dX2_isWarmth_8 : decode cX2_isWarmth 8 = .ok (.ireturn, 1) := by decide +kernel
theorem dX2_partDown_0 : decode cX2_partDown 0 = .ok (.iload_n 1, 1) := by decide +kernel
theorem dX2_partDown_1 : decode cX2_partDown 1 = .ok (.iconst 1, 1) := by decide +kernel
theorem dX2_partDown_2 : decode cX2_partDown 2 = .ok (.if_icmp .ge 5, 3) := by decide +kernel
theorem dX2_partDown_5 : decode cX2_partDown 5 = .ok (.iconst 0, 1) := by decide +kernel
theorem dX2_partDown_6 : decode cX2_partDown 6 = .ok (.ireturn, 1) := by decide +kernel
theorem dX2_partDown_7 : decode cX2_partDown 7 = .ok (.iload_n 0, 1) := by decide +kernel
theorem dX2_partDown_8 : decode cX2_partDown 8 = .ok (.iload_n 1, 1) := by decide +kernel
theorem dX2_partDown_9 : decode cX2_partDown 9 = .ok (.irem, 1) := by decide +kernel
theorem dX2_partDown_10 : decode cX2_partDown 10 = .ok (.ifCond .ge 11, 3) := by decide +kernel
theorem dX2_partDown_13 : decode cX2_partDown 13 = .ok (.iload_n 0, 1) := by decide +kernel
theorem dX2_partDown_14 : decode cX2_partDown 14 = .ok (.iload_n 1, 1) := by decide +kernel
theorem dX2_partDown_15 : decode cX2_partDown 15 = .ok (.idiv, 1) := by decide +kernel
theorem dX2_partDown_16 : decode cX2_partDown 16 = .ok (.iconst 1, 1) := by decide +kernel
theorem dX2_partDown_17 : decode cX2_partDown 17 = .ok (.isub, 1) := by decide +kernel
theorem dX2_partDown_18 : decode cX2_partDown 18 = .ok (.goto 6, 3) := by decide +kernel
theorem dX2_partDown_21 : decode cX2_partDown 21 = .ok (.iload_n 0, 1) := by decide +kernel
theorem dX2_partDown_22 : decode cX2_partDown 22 = .ok (.iload_n 1, 1) := by decide +kernel
theorem dX2_partDown_23 : decode cX2_partDown 23 = .ok (.idiv, 1) := by decide +kernel
theorem dX2_partDown_24 : decode cX2_partDown 24 = .ok (.ireturn, 1) := by decide +kernel
theorem dX2_partCut_0 : decode cX2_partCut 0 = .ok (.iload_n 1, 1) := by decide +kernel
theorem dX2_partCut_1 : decode cX2_partCut 1 = .ok (.iconst 1, 1) := by decide +kernel
theorem dX2_partCut_2 : decode cX2_partCut 2 = .ok (.if_icmp .ge 7, 3) := by decide +kernel
theorem dX2_partCut_5 : decode cX2_partCut 5 = .ok (.iconst 0, 1) := by decide +kernel
theorem dX2_partCut_6 : decode cX2_partCut 6 = .ok (.goto 6, 3) := by decide +kernel
theorem dX2_partCut_9 : decode cX2_partCut 9 = .ok (.iload_n 0, 1) := by decide +kernel
theorem dX2_partCut_10 : decode cX2_partCut 10 = .ok (.iload_n 1, 1) := by decide +kernel
theorem dX2_partCut_11 : decode cX2_partCut 11 = .ok (.idiv, 1) := by decide +kernel
theorem dX2_partCut_12 : decode cX2_partCut 12 = .ok (.ireturn, 1) := by decide +kernel
theorem dX2_mix_0 : decode cX2_mix 0 = .ok (.ldc2_w 158, 3) := by decide +kernel
theorem dX2_mix_3 : decode cX2_mix 3 = .ok (.lload_n 0, 1) := by decide +kernel
theorem dX2_mix_4 : decode cX2_mix 4 = .ok (.lmul, 1) := by decide +kernel
theorem dX2_mix_5 : decode cX2_mix 5 = .ok (.lload_n 2, 1) := by decide +kernel
theorem dX2_mix_6 : decode cX2_mix 6 = .ok (.ladd, 1) := by decide +kernel
theorem dX2_mix_7 : decode cX2_mix 7 = .ok (.lreturn, 1) := by decide +kernel
theorem dX2_mixRow_0 : decode cX2_mixRow 0 = .ok (.iconst 0, 1) := by decide +kernel
theorem dX2_mixRow_1 : decode cX2_mixRow 1 = .ok (.istore 4, 2) := by decide +kernel
theorem dX2_mixRow_3 : decode cX2_mixRow 3 = .ok (.iload 4, 2) := by decide +kernel
theorem dX2_mixRow_5 : decode cX2_mixRow 5 = .ok (.iload_n 3, 1) := by decide +kernel
theorem dX2_mixRow_6 : decode cX2_mixRow 6 = .ok (.if_icmp .ge 26, 3) := by decide +kernel
theorem dX2_mixRow_9 : decode cX2_mixRow 9 = .ok (.iload 4, 2) := by decide +kernel
theorem dX2_mixRow_11 : decode cX2_mixRow 11 = .ok (.aload_n 2, 1) := by decide +kernel
theorem dX2_mixRow_12 : decode cX2_mixRow 12 = .ok (.arraylength, 1) := by decide +kernel
theorem dX2_mixRow_13 : decode cX2_mixRow 13 = .ok (.if_icmp .ge 19, 3) := by decide +kernel
theorem dX2_mixRow_16 : decode cX2_mixRow 16 = .ok (.lload_n 0, 1) := by decide +kernel
theorem dX2_mixRow_17 : decode cX2_mixRow 17 = .ok (.aload_n 2, 1) := by decide +kernel
theorem dX2_mixRow_18 : decode cX2_mixRow 18 = .ok (.iload 4, 2) := by decide +kernel
theorem dX2_mixRow_20 : decode cX2_mixRow 20 = .ok (.iaload, 1) := by decide +kernel
theorem dX2_mixRow_21 : decode cX2_mixRow 21 = .ok (.i2l, 1) := by decide +kernel
theorem dX2_mixRow_22 : decode cX2_mixRow 22 = .ok (.invokestatic 154, 3) := by decide +kernel
theorem dX2_mixRow_25 : decode cX2_mixRow 25 = .ok (.lstore_n 0, 1) := by decide +kernel
theorem dX2_mixRow_26 : decode cX2_mixRow 26 = .ok (.iinc 4 1, 3) := by decide +kernel
theorem dX2_mixRow_29 : decode cX2_mixRow 29 = .ok (.goto (-26), 3) := by decide +kernel
theorem dX2_mixRow_32 : decode cX2_mixRow 32 = .ok (.lload_n 0, 1) := by decide +kernel
theorem dX2_mixRow_33 : decode cX2_mixRow 33 = .ok (.lreturn, 1) := by decide +kernel
theorem dX2_nothingCanPass_0 : decode cX2_nothingCanPass 0 = .ok (.aload_n 0, 1) := by decide +kernel
theorem dX2_nothingCanPass_1 : decode cX2_nothingCanPass 1 = .ok (.getfield 10, 3) := by decide +kernel
theorem dX2_nothingCanPass_4 : decode cX2_nothingCanPass 4 = .ok (.getfield 54, 3) := by decide +kernel
theorem dX2_nothingCanPass_7 : decode cX2_nothingCanPass 7 = .ok (.ifCond .eq 10, 3) := by decide +kernel
theorem dX2_nothingCanPass_10 : decode cX2_nothingCanPass 10 = .ok (.aload_n 0, 1) := by decide +kernel
theorem dX2_nothingCanPass_11 : decode cX2_nothingCanPass 11 = .ok (.getfield 31, 3) := by decide +kernel
theorem dX2_nothingCanPass_14 : decode cX2_nothingCanPass 14 = .ok (.ifCond .ne 7, 3) := by decide +kernel
theorem dX2_nothingCanPass_17 : decode cX2_nothingCanPass 17 = .ok (.iconst 1, 1) := by decide +kernel
theorem dX2_nothingCanPass_18 : decode cX2_nothingCanPass 18 = .ok (.goto 4, 3) := by decide +kernel
theorem dX2_nothingCanPass_21 : decode cX2_nothingCanPass 21 = .ok (.iconst 0, 1) := by decide +kernel
theorem dX2_nothingCanPass_22 : decode cX2_nothingCanPass 22 = .ok (.ireturn, 1) := by decide +kernel
theorem dX2_hourBehind_0 : decode cX2_hourBehind 0 = .ok (.iload_n 1, 1) := by decide +kernel
theorem dX2_hourBehind_1 : decode cX2_hourBehind 1 = .ok (.iconst 1, 1) := by decide +kernel
theorem dX2_hourBehind_2 : decode cX2_hourBehind 2 = .ok (.iadd, 1) := by decide +kernel
theorem dX2_hourBehind_3 : decode cX2_hourBehind 3 = .ok (.aload_n 0, 1) := by decide +kernel
theorem dX2_hourBehind_4 : decode cX2_hourBehind 4 = .ok (.getfield 31, 3) := by decide +kernel
theorem dX2_hourBehind_7 : decode cX2_hourBehind 7 = .ok (.if_icmp .ge 9, 3) := by decide +kernel
theorem dX2_hourBehind_10 : decode cX2_hourBehind 10 = .ok (.iload_n 1, 1) := by decide +kernel
theorem dX2_hourBehind_11 : decode cX2_hourBehind 11 = .ok (.iconst 1, 1) := by decide +kernel
theorem dX2_hourBehind_12 : decode cX2_hourBehind 12 = .ok (.iadd, 1) := by decide +kernel
theorem dX2_hourBehind_13 : decode cX2_hourBehind 13 = .ok (.goto 4, 3) := by decide +kernel
theorem dX2_hourBehind_16 : decode cX2_hourBehind 16 = .ok (.iconst 0, 1) := by decide +kernel
theorem dX2_hourBehind_17 : decode cX2_hourBehind 17 = .ok (.ireturn, 1) := by decide +kernel
theorem dX2_roundKeepsWater_0 : decode cX2_roundKeepsWater 0 = .ok (.aload_n 0, 1) := by decide +kernel
theorem dX2_roundKeepsWater_1 : decode cX2_roundKeepsWater 1 = .ok (.getfield 16, 3) := by decide +kernel
theorem dX2_roundKeepsWater_4 : decode cX2_roundKeepsWater 4 = .ok (.aload_n 0, 1) := by decide +kernel
theorem dX2_roundKeepsWater_5 : decode cX2_roundKeepsWater 5 = .ok (.getfield 10, 3) := by decide +kernel
theorem dX2_roundKeepsWater_8 : decode cX2_roundKeepsWater 8 = .ok (.invokevirtual 160, 3) := by decide +kernel
theorem dX2_roundKeepsWater_11 : decode cX2_roundKeepsWater 11 = .ok (.iconst 0, 1) := by decide +kernel
theorem dX2_roundKeepsWater_12 : decode cX2_roundKeepsWater 12 = .ok (.istore_n 1, 1) := by decide +kernel
theorem dX2_roundKeepsWater_13 : decode cX2_roundKeepsWater 13 = .ok (.iload_n 1, 1) := by decide +kernel
theorem dX2_roundKeepsWater_14 : decode cX2_roundKeepsWater 14 = .ok (.aload_n 0, 1) := by decide +kernel
theorem dX2_roundKeepsWater_15 : decode cX2_roundKeepsWater 15 = .ok (.getfield 31, 3) := by decide +kernel
theorem dX2_roundKeepsWater_18 : decode cX2_roundKeepsWater 18 = .ok (.if_icmp .ge 26, 3) := by decide +kernel
theorem dX2_roundKeepsWater_21 : decode cX2_roundKeepsWater 21 = .ok (.aload_n 0, 1) := by decide +kernel
theorem dX2_roundKeepsWater_22 : decode cX2_roundKeepsWater 22 = .ok (.getfield 10, 3) := by decide +kernel
theorem dX2_roundKeepsWater_25 : decode cX2_roundKeepsWater 25 = .ok (.aload_n 0, 1) := by decide +kernel
theorem dX2_roundKeepsWater_26 : decode cX2_roundKeepsWater 26 = .ok (.getfield 28, 3) := by decide +kernel
theorem dX2_roundKeepsWater_29 : decode cX2_roundKeepsWater 29 = .ok (.iload_n 1, 1) := by decide +kernel
theorem dX2_roundKeepsWater_30 : decode cX2_roundKeepsWater 30 = .ok (.aaload, 1) := by decide +kernel
theorem dX2_roundKeepsWater_31 : decode cX2_roundKeepsWater 31 = .ok (.aload_n 0, 1) := by decide +kernel
theorem dX2_roundKeepsWater_32 : decode cX2_roundKeepsWater 32 = .ok (.getfield 38, 3) := by decide +kernel
theorem dX2_roundKeepsWater_35 : decode cX2_roundKeepsWater 35 = .ok (.invokevirtual 95, 3) := by decide +kernel
theorem dX2_roundKeepsWater_38 : decode cX2_roundKeepsWater 38 = .ok (.iinc 1 1, 3) := by decide +kernel
theorem dX2_roundKeepsWater_41 : decode cX2_roundKeepsWater 41 = .ok (.goto (-28), 3) := by decide +kernel
theorem dX2_roundKeepsWater_44 : decode cX2_roundKeepsWater 44 = .ok (.aload_n 0, 1) := by decide +kernel
theorem dX2_roundKeepsWater_45 : decode cX2_roundKeepsWater 45 = .ok (.getfield 10, 3) := by decide +kernel
theorem dX2_roundKeepsWater_48 : decode cX2_roundKeepsWater 48 = .ok (.aload_n 0, 1) := by decide +kernel
theorem dX2_roundKeepsWater_49 : decode cX2_roundKeepsWater 49 = .ok (.getfield 16, 3) := by decide +kernel
theorem dX2_roundKeepsWater_52 : decode cX2_roundKeepsWater 52 = .ok (.invokevirtual 164, 3) := by decide +kernel
theorem dX2_roundKeepsWater_55 : decode cX2_roundKeepsWater 55 = .ok (.ireturn, 1) := by decide +kernel
theorem dX2_hourRefusal_0 : decode cX2_hourRefusal 0 = .ok (.iload_n 1, 1) := by decide +kernel
theorem dX2_hourRefusal_1 : decode cX2_hourRefusal 1 = .ok (.iconst 0, 1) := by decide +kernel
theorem dX2_hourRefusal_2 : decode cX2_hourRefusal 2 = .ok (.aload_n 0, 1) := by decide +kernel
theorem dX2_hourRefusal_3 : decode cX2_hourRefusal 3 = .ok (.getfield 31, 3) := by decide +kernel
theorem dX2_hourRefusal_6 : decode cX2_hourRefusal 6 = .ok (.iconst 1, 1) := by decide +kernel
theorem dX2_hourRefusal_7 : decode cX2_hourRefusal 7 = .ok (.isub, 1) := by decide +kernel
theorem dX2_hourRefusal_8 : decode cX2_hourRefusal 8 = .ok (.invokestatic 50, 3) := by decide +kernel
theorem dX2_hourRefusal_11 : decode cX2_hourRefusal 11 = .ok (.ifCond .ne 6, 3) := by decide +kernel
theorem dX2_hourRefusal_14 : decode cX2_hourRefusal 14 = .ok (.bipush (-101), 2) := by decide +kernel
theorem dX2_hourRefusal_16 : decode cX2_hourRefusal 16 = .ok (.ireturn, 1) := by decide +kernel
theorem dX2_hourRefusal_17 : decode cX2_hourRefusal 17 = .ok (.aload_n 0, 1) := by decide +kernel
theorem dX2_hourRefusal_18 : decode cX2_hourRefusal 18 = .ok (.getfield 10, 3) := by decide +kernel
theorem dX2_hourRefusal_21 : decode cX2_hourRefusal 21 = .ok (.getfield 54, 3) := by decide +kernel
theorem dX2_hourRefusal_24 : decode cX2_hourRefusal 24 = .ok (.ifCond .ne 8, 3) := by decide +kernel
theorem dX2_hourRefusal_27 : decode cX2_hourRefusal 27 = .ok (.bipush (-103), 2) := by decide +kernel
theorem dX2_hourRefusal_29 : decode cX2_hourRefusal 29 = .ok (.goto 4, 3) := by decide +kernel
theorem dX2_hourRefusal_32 : decode cX2_hourRefusal 32 = .ok (.iconst 0, 1) := by decide +kernel
theorem dX2_hourRefusal_33 : decode cX2_hourRefusal 33 = .ok (.ireturn, 1) := by decide +kernel
theorem dX2_faceRefusal_0 : decode cX2_faceRefusal 0 = .ok (.aload_n 0, 1) := by decide +kernel
theorem dX2_faceRefusal_1 : decode cX2_faceRefusal 1 = .ok (.iload_n 1, 1) := by decide +kernel
theorem dX2_faceRefusal_2 : decode cX2_faceRefusal 2 = .ok (.invokevirtual 117, 3) := by decide +kernel
theorem dX2_faceRefusal_5 : decode cX2_faceRefusal 5 = .ok (.istore_n 3, 1) := by decide +kernel
theorem dX2_faceRefusal_6 : decode cX2_faceRefusal 6 = .ok (.iload_n 3, 1) := by decide +kernel
theorem dX2_faceRefusal_7 : decode cX2_faceRefusal 7 = .ok (.bipush (-103), 2) := by decide +kernel
theorem dX2_faceRefusal_9 : decode cX2_faceRefusal 9 = .ok (.if_icmp .ne 7, 3) := by decide +kernel
theorem dX2_faceRefusal_12 : decode cX2_faceRefusal 12 = .ok (.sipush (-10103), 3) := by decide +kernel
theorem dX2_faceRefusal_15 : decode cX2_faceRefusal 15 = .ok (.ireturn, 1) := by decide +kernel
theorem dX2_faceRefusal_16 : decode cX2_faceRefusal 16 = .ok (.iload_n 3, 1) := by decide +kernel
theorem dX2_faceRefusal_17 : decode cX2_faceRefusal 17 = .ok (.ifCond .ne 18, 3) := by decide +kernel
theorem dX2_faceRefusal_20 : decode cX2_faceRefusal 20 = .ok (.iload_n 2, 1) := by decide +kernel
theorem dX2_faceRefusal_21 : decode cX2_faceRefusal 21 = .ok (.iconst 0, 1) := by decide +kernel
theorem dX2_faceRefusal_22 : decode cX2_faceRefusal 22 = .ok (.aload_n 0, 1) := by decide +kernel
theorem dX2_faceRefusal_23 : decode cX2_faceRefusal 23 = .ok (.getfield 10, 3) := by decide +kernel
theorem dX2_faceRefusal_26 : decode cX2_faceRefusal 26 = .ok (.getfield 54, 3) := by decide +kernel
theorem dX2_faceRefusal_29 : decode cX2_faceRefusal 29 = .ok (.invokestatic 50, 3) := by decide +kernel
theorem dX2_faceRefusal_32 : decode cX2_faceRefusal 32 = .ok (.ifCond .ne 9, 3) := by decide +kernel
theorem dX2_faceRefusal_35 : decode cX2_faceRefusal 35 = .ok (.sipush (-10101), 3) := by decide +kernel
theorem dX2_faceRefusal_38 : decode cX2_faceRefusal 38 = .ok (.goto 4, 3) := by decide +kernel
theorem dX2_faceRefusal_41 : decode cX2_faceRefusal 41 = .ok (.iconst 0, 1) := by decide +kernel
theorem dX2_faceRefusal_42 : decode cX2_faceRefusal 42 = .ok (.ireturn, 1) := by decide +kernel
theorem dX2_lastHourRead_0 : decode cX2_lastHourRead 0 = .ok (.iconst 0, 1) := by decide +kernel
theorem dX2_lastHourRead_1 : decode cX2_lastHourRead 1 = .ok (.istore_n 1, 1) := by decide +kernel
theorem dX2_lastHourRead_2 : decode cX2_lastHourRead 2 = .ok (.iconst 0, 1) := by decide +kernel
theorem dX2_lastHourRead_3 : decode cX2_lastHourRead 3 = .ok (.istore_n 2, 1) := by decide +kernel
theorem dX2_lastHourRead_4 : decode cX2_lastHourRead 4 = .ok (.iload_n 2, 1) := by decide +kernel
theorem dX2_lastHourRead_5 : decode cX2_lastHourRead 5 = .ok (.aload_n 0, 1) := by decide +kernel
theorem dX2_lastHourRead_6 : decode cX2_lastHourRead 6 = .ok (.getfield 44, 3) := by decide +kernel
theorem dX2_lastHourRead_9 : decode cX2_lastHourRead 9 = .ok (.if_icmp .ge 22, 3) := by decide +kernel
theorem dX2_lastHourRead_12 : decode cX2_lastHourRead 12 = .ok (.iload_n 1, 1) := by decide +kernel
theorem dX2_lastHourRead_13 : decode cX2_lastHourRead 13 = .ok (.aload_n 0, 1) := by decide +kernel
theorem dX2_lastHourRead_14 : decode cX2_lastHourRead 14 = .ok (.getfield 41, 3) := by decide +kernel
theorem dX2_lastHourRead_17 : decode cX2_lastHourRead 17 = .ok (.iload_n 2, 1) := by decide +kernel
theorem dX2_lastHourRead_18 : decode cX2_lastHourRead 18 = .ok (.aaload, 1) := by decide +kernel
theorem dX2_lastHourRead_19 : decode cX2_lastHourRead 19 = .ok (.iconst 1, 1) := by decide +kernel
theorem dX2_lastHourRead_20 : decode cX2_lastHourRead 20 = .ok (.iaload, 1) := by decide +kernel
theorem dX2_lastHourRead_21 : decode cX2_lastHourRead 21 = .ok (.invokestatic 168, 3) := by decide +kernel
theorem dX2_lastHourRead_24 : decode cX2_lastHourRead 24 = .ok (.istore_n 1, 1) := by decide +kernel
theorem dX2_lastHourRead_25 : decode cX2_lastHourRead 25 = .ok (.iinc 2 1, 3) := by decide +kernel
theorem dX2_lastHourRead_28 : decode cX2_lastHourRead 28 = .ok (.goto (-24), 3) := by decide +kernel
theorem dX2_lastHourRead_31 : decode cX2_lastHourRead 31 = .ok (.iload_n 1, 1) := by decide +kernel
theorem dX2_lastHourRead_32 : decode cX2_lastHourRead 32 = .ok (.ireturn, 1) := by decide +kernel
theorem dX2_readingsHoldWith_0 : decode cX2_readingsHoldWith 0 = .ok (.aload_n 0, 1) := by decide +kernel
theorem dX2_readingsHoldWith_1 : decode cX2_readingsHoldWith 1 = .ok (.getfield 16, 3) := by decide +kernel
theorem dX2_readingsHoldWith_4 : decode cX2_readingsHoldWith 4 = .ok (.aload_n 0, 1) := by decide +kernel
theorem dX2_readingsHoldWith_5 : decode cX2_readingsHoldWith 5 = .ok (.getfield 10, 3) := by decide +kernel
theorem dX2_readingsHoldWith_8 : decode cX2_readingsHoldWith 8 = .ok (.invokevirtual 160, 3) := by decide +kernel
theorem dX2_readingsHoldWith_11 : decode cX2_readingsHoldWith 11 = .ok (.aload_n 0, 1) := by decide +kernel
theorem dX2_readingsHoldWith_12 : decode cX2_readingsHoldWith 12 = .ok (.getfield 35, 3) := by decide +kernel
theorem dX2_readingsHoldWith_15 : decode cX2_readingsHoldWith 15 = .ok (.istore_n 3, 1) := by decide +kernel
theorem dX2_readingsHoldWith_16 : decode cX2_readingsHoldWith 16 = .ok (.iconst 1, 1) := by decide +kernel
theorem dX2_readingsHoldWith_17 : decode cX2_readingsHoldWith 17 = .ok (.istore 4, 2) := by decide +kernel
theorem dX2_readingsHoldWith_19 : decode cX2_readingsHoldWith 19 = .ok (.iload 4, 2) := by decide +kernel
theorem dX2_readingsHoldWith_21 : decode cX2_readingsHoldWith 21 = .ok (.iload_n 2, 1) := by decide +kernel
theorem dX2_readingsHoldWith_22 : decode cX2_readingsHoldWith 22 = .ok (.if_icmp .gt 40, 3) := by decide +kernel
theorem dX2_readingsHoldWith_25 : decode cX2_readingsHoldWith 25 = .ok (.aload_n 0, 1) := by decide +kernel
theorem dX2_readingsHoldWith_26 : decode cX2_readingsHoldWith 26 = .ok (.getfield 16, 3) := by decide +kernel
theorem dX2_readingsHoldWith_29 : decode cX2_readingsHoldWith 29 = .ok (.aload_n 0, 1) := by decide +kernel
theorem dX2_readingsHoldWith_30 : decode cX2_readingsHoldWith 30 = .ok (.getfield 28, 3) := by decide +kernel
theorem dX2_readingsHoldWith_33 : decode cX2_readingsHoldWith 33 = .ok (.iload_n 3, 1) := by decide +kernel
theorem dX2_readingsHoldWith_34 : decode cX2_readingsHoldWith 34 = .ok (.aaload, 1) := by decide +kernel
theorem dX2_readingsHoldWith_35 : decode cX2_readingsHoldWith 35 = .ok (.iload_n 1, 1) := by decide +kernel
theorem dX2_readingsHoldWith_36 : decode cX2_readingsHoldWith 36 = .ok (.invokevirtual 173, 3) := by decide +kernel
theorem dX2_readingsHoldWith_39 : decode cX2_readingsHoldWith 39 = .ok (.aload_n 0, 1) := by decide +kernel
theorem dX2_readingsHoldWith_40 : decode cX2_readingsHoldWith 40 = .ok (.iload_n 3, 1) := by decide +kernel
theorem dX2_readingsHoldWith_41 : decode cX2_readingsHoldWith 41 = .ok (.invokevirtual 99, 3) := by decide +kernel
theorem dX2_readingsHoldWith_44 : decode cX2_readingsHoldWith 44 = .ok (.istore_n 3, 1) := by decide +kernel
theorem dX2_readingsHoldWith_45 : decode cX2_readingsHoldWith 45 = .ok (.aload_n 0, 1) := by decide +kernel
theorem dX2_readingsHoldWith_46 : decode cX2_readingsHoldWith 46 = .ok (.iload 4, 2) := by decide +kernel
theorem dX2_readingsHoldWith_48 : decode cX2_readingsHoldWith 48 = .ok (.invokevirtual 176, 3) := by decide +kernel
theorem dX2_readingsHoldWith_51 : decode cX2_readingsHoldWith 51 = .ok (.ifCond .ne 5, 3) := by decide +kernel
theorem dX2_readingsHoldWith_54 : decode cX2_readingsHoldWith 54 = .ok (.iconst 0, 1) := by decide +kernel
theorem dX2_readingsHoldWith_55 : decode cX2_readingsHoldWith 55 = .ok (.ireturn, 1) := by decide +kernel
theorem dX2_readingsHoldWith_56 : decode cX2_readingsHoldWith 56 = .ok (.iinc 4 1, 3) := by decide +kernel
theorem dX2_readingsHoldWith_59 : decode cX2_readingsHoldWith 59 = .ok (.goto (-40), 3) := by decide +kernel
theorem dX2_readingsHoldWith_62 : decode cX2_readingsHoldWith 62 = .ok (.iconst 1, 1) := by decide +kernel
theorem dX2_readingsHoldWith_63 : decode cX2_readingsHoldWith 63 = .ok (.ireturn, 1) := by decide +kernel
theorem dX2_readingsHoldBehind_0 : decode cX2_readingsHoldBehind 0 = .ok (.iconst 0, 1) := by decide +kernel
theorem dX2_readingsHoldBehind_1 : decode cX2_readingsHoldBehind 1 = .ok (.istore_n 2, 1) := by decide +kernel
theorem dX2_readingsHoldBehind_2 : decode cX2_readingsHoldBehind 2 = .ok (.iload_n 2, 1) := by decide +kernel
theorem dX2_readingsHoldBehind_3 : decode cX2_readingsHoldBehind 3 = .ok (.aload_n 0, 1) := by decide +kernel
theorem dX2_readingsHoldBehind_4 : decode cX2_readingsHoldBehind 4 = .ok (.getfield 44, 3) := by decide +kernel
theorem dX2_readingsHoldBehind_7 : decode cX2_readingsHoldBehind 7 = .ok (.if_icmp .ge 47, 3) := by decide +kernel
theorem dX2_readingsHoldBehind_10 : decode cX2_readingsHoldBehind 10 = .ok (.aload_n 0, 1) := by decide +kernel
theorem dX2_readingsHoldBehind_11 : decode cX2_readingsHoldBehind 11 = .ok (.getfield 41, 3) := by decide +kernel
theorem dX2_readingsHoldBehind_14 : decode cX2_readingsHoldBehind 14 = .ok (.iload_n 2, 1) := by decide +kernel
theorem dX2_readingsHoldBehind_15 : decode cX2_readingsHoldBehind 15 = .ok (.aaload, 1) := by decide +kernel
theorem dX2_readingsHoldBehind_16 : decode cX2_readingsHoldBehind 16 = .ok (.astore_n 3, 1) := by decide +kernel
theorem dX2_readingsHoldBehind_17 : decode cX2_readingsHoldBehind 17 = .ok (.aload_n 3, 1) := by decide +kernel
theorem dX2_readingsHoldBehind_18 : decode cX2_readingsHoldBehind 18 = .ok (.iconst 1, 1) := by decide +kernel
theorem dX2_readingsHoldBehind_19 : decode cX2_readingsHoldBehind 19 = .ok (.iaload, 1) := by decide +kernel
theorem dX2_readingsHoldBehind_20 : decode cX2_readingsHoldBehind 20 = .ok (.iload_n 1, 1) := by decide +kernel
theorem dX2_readingsHoldBehind_21 : decode cX2_readingsHoldBehind 21 = .ok (.if_icmp .ne 27, 3) := by decide +kernel
theorem dX2_readingsHoldBehind_24 : decode cX2_readingsHoldBehind 24 = .ok (.aload_n 0, 1) := by decide +kernel
theorem dX2_readingsHoldBehind_25 : decode cX2_readingsHoldBehind 25 = .ok (.getfield 16, 3) := by decide +kernel
theorem dX2_readingsHoldBehind_28 : decode cX2_readingsHoldBehind 28 = .ok (.aload_n 3, 1) := by decide +kernel
theorem dX2_readingsHoldBehind_29 : decode cX2_readingsHoldBehind 29 = .ok (.iconst 0, 1) := by decide +kernel
theorem dX2_readingsHoldBehind_30 : decode cX2_readingsHoldBehind 30 = .ok (.iaload, 1) := by decide +kernel
theorem dX2_readingsHoldBehind_31 : decode cX2_readingsHoldBehind 31 = .ok (.invokevirtual 179, 3) := by decide +kernel
theorem dX2_readingsHoldBehind_34 : decode cX2_readingsHoldBehind 34 = .ok (.aload_n 3, 1) := by decide +kernel
theorem dX2_readingsHoldBehind_35 : decode cX2_readingsHoldBehind 35 = .ok (.iconst 2, 1) := by decide +kernel
theorem dX2_readingsHoldBehind_36 : decode cX2_readingsHoldBehind 36 = .ok (.iaload, 1) := by decide +kernel
theorem dX2_readingsHoldBehind_37 : decode cX2_readingsHoldBehind 37 = .ok (.aload_n 3, 1) := by decide +kernel
theorem dX2_readingsHoldBehind_38 : decode cX2_readingsHoldBehind 38 = .ok (.iconst 3, 1) := by decide +kernel
theorem dX2_readingsHoldBehind_39 : decode cX2_readingsHoldBehind 39 = .ok (.iaload, 1) := by decide +kernel
theorem dX2_readingsHoldBehind_40 : decode cX2_readingsHoldBehind 40 = .ok (.invokestatic 50, 3) := by decide +kernel
theorem dX2_readingsHoldBehind_43 : decode cX2_readingsHoldBehind 43 = .ok (.ifCond .ne 5, 3) := by decide +kernel
theorem dX2_readingsHoldBehind_46 : decode cX2_readingsHoldBehind 46 = .ok (.iconst 0, 1) := by decide +kernel
theorem dX2_readingsHoldBehind_47 : decode cX2_readingsHoldBehind 47 = .ok (.ireturn, 1) := by decide +kernel
theorem dX2_readingsHoldBehind_48 : decode cX2_readingsHoldBehind 48 = .ok (.iinc 2 1, 3) := by decide +kernel
theorem dX2_readingsHoldBehind_51 : decode cX2_readingsHoldBehind 51 = .ok (.goto (-49), 3) := by decide +kernel
theorem dX2_readingsHoldBehind_54 : decode cX2_readingsHoldBehind 54 = .ok (.iconst 1, 1) := by decide +kernel
theorem dX2_readingsHoldBehind_55 : decode cX2_readingsHoldBehind 55 = .ok (.ireturn, 1) := by decide +kernel
theorem dX2_tellCount_0 : decode cX2_tellCount 0 = .ok (.iload_n 1, 1) := by decide +kernel
theorem dX2_tellCount_1 : decode cX2_tellCount 1 = .ok (.tableswitch 75 0 5 #[39, 47, 52, 57, 62, 67], 39) := by decide +kernel
theorem dX2_tellCount_40 : decode cX2_tellCount 40 = .ok (.aload_n 0, 1) := by decide +kernel
theorem dX2_tellCount_41 : decode cX2_tellCount 41 = .ok (.getfield 10, 3) := by decide +kernel
theorem dX2_tellCount_44 : decode cX2_tellCount 44 = .ok (.getfield 54, 3) := by decide +kernel
theorem dX2_tellCount_47 : decode cX2_tellCount 47 = .ok (.ireturn, 1) := by decide +kernel
theorem dX2_tellCount_48 : decode cX2_tellCount 48 = .ok (.aload_n 0, 1) := by decide +kernel
theorem dX2_tellCount_49 : decode cX2_tellCount 49 = .ok (.getfield 31, 3) := by decide +kernel
theorem dX2_tellCount_52 : decode cX2_tellCount 52 = .ok (.ireturn, 1) := by decide +kernel
theorem dX2_tellCount_53 : decode cX2_tellCount 53 = .ok (.aload_n 0, 1) := by decide +kernel
theorem dX2_tellCount_54 : decode cX2_tellCount 54 = .ok (.getfield 35, 3) := by decide +kernel
theorem dX2_tellCount_57 : decode cX2_tellCount 57 = .ok (.ireturn, 1) := by decide +kernel
theorem dX2_tellCount_58 : decode cX2_tellCount 58 = .ok (.aload_n 0, 1) := by decide +kernel
theorem dX2_tellCount_59 : decode cX2_tellCount 59 = .ok (.getfield 38, 3) := by decide +kernel
theorem dX2_tellCount_62 : decode cX2_tellCount 62 = .ok (.ireturn, 1) := by decide +kernel
theorem dX2_tellCount_63 : decode cX2_tellCount 63 = .ok (.aload_n 0, 1) := by decide +kernel
theorem dX2_tellCount_64 : decode cX2_tellCount 64 = .ok (.getfield 44, 3) := by decide +kernel
theorem dX2_tellCount_67 : decode cX2_tellCount 67 = .ok (.ireturn, 1) := by decide +kernel
theorem dX2_tellCount_68 : decode cX2_tellCount 68 = .ok (.aload_n 0, 1) := by decide +kernel
theorem dX2_tellCount_69 : decode cX2_tellCount 69 = .ok (.getfield 10, 3) := by decide +kernel
theorem dX2_tellCount_72 : decode cX2_tellCount 72 = .ok (.invokevirtual 182, 3) := by decide +kernel
theorem dX2_tellCount_75 : decode cX2_tellCount 75 = .ok (.ireturn, 1) := by decide +kernel
theorem dX2_tellCount_76 : decode cX2_tellCount 76 = .ok (.aload_n 0, 1) := by decide +kernel
theorem dX2_tellCount_77 : decode cX2_tellCount 77 = .ok (.getfield 47, 3) := by decide +kernel
theorem dX2_tellCount_80 : decode cX2_tellCount 80 = .ok (.ireturn, 1) := by decide +kernel
