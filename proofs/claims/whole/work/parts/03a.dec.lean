theorem dX0_init_0 : decode cX0_init 0 = .ok (.aload_n 0, 1) := by decide +kernel
theorem dX0_init_1 : decode cX0_init 1 = .ok (.invokespecial 3, 3) := by decide +kernel
theorem dX0_init_4 : decode cX0_init 4 = .ok (.aload_n 0, 1) := by decide +kernel
theorem dX0_init_5 : decode cX0_init 5 = .ok (.bipush 64, 2) := by decide +kernel
theorem dX0_init_7 : decode cX0_init 7 = .ok (.newarray .int, 2) := by decide +kernel
theorem dX0_init_9 : decode cX0_init 9 = .ok (.putfield 9, 3) := by decide +kernel
theorem dX0_init_12 : decode cX0_init 12 = .ok (.aload_n 0, 1) := by decide +kernel
theorem dX0_init_13 : decode cX0_init 13 = .ok (.bipush 6, 2) := by decide +kernel
theorem dX0_init_15 : decode cX0_init 15 = .ok (.newarray .int, 2) := by decide +kernel
theorem dX0_init_17 : decode cX0_init 17 = .ok (.putfield 15, 3) := by decide +kernel
theorem dX0_init_20 : decode cX0_init 20 = .ok (.return_, 1) := by decide +kernel
theorem dX0_saturation_0 : decode cX0_saturation 0 = .ok (.iload_n 0, 1) := by decide +kernel
theorem dX0_saturation_1 : decode cX0_saturation 1 = .ok (.ifCond .ge 14, 3) := by decide +kernel
theorem dX0_saturation_4 : decode cX0_saturation 4 = .ok (.sipush 600, 3) := by decide +kernel
theorem dX0_saturation_7 : decode cX0_saturation 7 = .ok (.bipush 20, 2) := by decide +kernel
theorem dX0_saturation_9 : decode cX0_saturation 9 = .ok (.iload_n 0, 1) := by decide +kernel
theorem dX0_saturation_10 : decode cX0_saturation 10 = .ok (.imul, 1) := by decide +kernel
theorem dX0_saturation_11 : decode cX0_saturation 11 = .ok (.iadd, 1) := by decide +kernel
theorem dX0_saturation_12 : decode cX0_saturation 12 = .ok (.goto 11, 3) := by decide +kernel
theorem dX0_saturation_15 : decode cX0_saturation 15 = .ok (.sipush 600, 3) := by decide +kernel
theorem dX0_saturation_18 : decode cX0_saturation 18 = .ok (.bipush 40, 2) := by decide +kernel
theorem dX0_saturation_20 : decode cX0_saturation 20 = .ok (.iload_n 0, 1) := by decide +kernel
theorem dX0_saturation_21 : decode cX0_saturation 21 = .ok (.imul, 1) := by decide +kernel
theorem dX0_saturation_22 : decode cX0_saturation 22 = .ok (.iadd, 1) := by decide +kernel
theorem dX0_saturation_23 : decode cX0_saturation 23 = .ok (.ireturn, 1) := by decide +kernel
theorem dX0_pressureIn_0 : decode cX0_pressureIn 0 = .ok (.iload_n 0, 1) := by decide +kernel
theorem dX0_pressureIn_1 : decode cX0_pressureIn 1 = .ok (.iload_n 1, 1) := by decide +kernel
theorem dX0_pressureIn_2 : decode cX0_pressureIn 2 = .ok (.invokestatic 18, 3) := by decide +kernel
theorem dX0_pressureIn_5 : decode cX0_pressureIn 5 = .ok (.imul, 1) := by decide +kernel
theorem dX0_pressureIn_6 : decode cX0_pressureIn 6 = .ok (.sipush 1000, 3) := by decide +kernel
theorem dX0_pressureIn_9 : decode cX0_pressureIn 9 = .ok (.invokestatic 22, 3) := by decide +kernel
theorem dX0_pressureIn_12 : decode cX0_pressureIn 12 = .ok (.ireturn, 1) := by decide +kernel
theorem dX0_between_0 : decode cX0_between 0 = .ok (.iload_n 0, 1) := by decide +kernel
theorem dX0_between_1 : decode cX0_between 1 = .ok (.iload_n 1, 1) := by decide +kernel
theorem dX0_between_2 : decode cX0_between 2 = .ok (.iload_n 0, 1) := by decide +kernel
theorem dX0_between_3 : decode cX0_between 3 = .ok (.isub, 1) := by decide +kernel
theorem dX0_between_4 : decode cX0_between 4 = .ok (.iconst 1, 1) := by decide +kernel
theorem dX0_between_5 : decode cX0_between 5 = .ok (.iload_n 2, 1) := by decide +kernel
theorem dX0_between_6 : decode cX0_between 6 = .ok (.iadd, 1) := by decide +kernel
theorem dX0_between_7 : decode cX0_between 7 = .ok (.imul, 1) := by decide +kernel
theorem dX0_between_8 : decode cX0_between 8 = .ok (.iconst 2, 1) := by decide +kernel
theorem dX0_between_9 : decode cX0_between 9 = .ok (.iload_n 3, 1) := by decide +kernel
theorem dX0_between_10 : decode cX0_between 10 = .ok (.iadd, 1) := by decide +kernel
theorem dX0_between_11 : decode cX0_between 11 = .ok (.invokestatic 22, 3) := by decide +kernel
theorem dX0_between_14 : decode cX0_between 14 = .ok (.iadd, 1) := by decide +kernel
theorem dX0_between_15 : decode cX0_between 15 = .ok (.ireturn, 1) := by decide +kernel
theorem dX0_pressureAt_0 : decode cX0_pressureAt 0 = .ok (.iload_n 3, 1) := by decide +kernel
theorem dX0_pressureAt_1 : decode cX0_pressureAt 1 = .ok (.ifCond .gt 13, 3) := by decide +kernel
theorem dX0_pressureAt_4 : decode cX0_pressureAt 4 = .ok (.aload_n 2, 1) := by decide +kernel
theorem dX0_pressureAt_5 : decode cX0_pressureAt 5 = .ok (.iconst 0, 1) := by decide +kernel
theorem dX0_pressureAt_6 : decode cX0_pressureAt 6 = .ok (.iaload, 1) := by decide +kernel
theorem dX0_pressureAt_7 : decode cX0_pressureAt 7 = .ok (.aload_n 2, 1) := by decide +kernel
theorem dX0_pressureAt_8 : decode cX0_pressureAt 8 = .ok (.iconst 1, 1) := by decide +kernel
theorem dX0_pressureAt_9 : decode cX0_pressureAt 9 = .ok (.iaload, 1) := by decide +kernel
theorem dX0_pressureAt_10 : decode cX0_pressureAt 10 = .ok (.invokestatic 26, 3) := by decide +kernel
theorem dX0_pressureAt_13 : decode cX0_pressureAt 13 = .ok (.ireturn, 1) := by decide +kernel
theorem dX0_pressureAt_14 : decode cX0_pressureAt 14 = .ok (.iload_n 3, 1) := by decide +kernel
theorem dX0_pressureAt_15 : decode cX0_pressureAt 15 = .ok (.aload_n 1, 1) := by decide +kernel
theorem dX0_pressureAt_16 : decode cX0_pressureAt 16 = .ok (.getfield 29, 3) := by decide +kernel
theorem dX0_pressureAt_19 : decode cX0_pressureAt 19 = .ok (.if_icmp .lt 13, 3) := by decide +kernel
theorem dX0_pressureAt_22 : decode cX0_pressureAt 22 = .ok (.aload_n 2, 1) := by decide +kernel
theorem dX0_pressureAt_23 : decode cX0_pressureAt 23 = .ok (.iconst 3, 1) := by decide +kernel
theorem dX0_pressureAt_24 : decode cX0_pressureAt 24 = .ok (.iaload, 1) := by decide +kernel
theorem dX0_pressureAt_25 : decode cX0_pressureAt 25 = .ok (.aload_n 2, 1) := by decide +kernel
theorem dX0_pressureAt_26 : decode cX0_pressureAt 26 = .ok (.iconst 4, 1) := by decide +kernel
theorem dX0_pressureAt_27 : decode cX0_pressureAt 27 = .ok (.iaload, 1) := by decide +kernel
theorem dX0_pressureAt_28 : decode cX0_pressureAt 28 = .ok (.invokestatic 26, 3) := by decide +kernel
theorem dX0_pressureAt_31 : decode cX0_pressureAt 31 = .ok (.ireturn, 1) := by decide +kernel
theorem dX0_pressureAt_32 : decode cX0_pressureAt 32 = .ok (.aload_n 0, 1) := by decide +kernel
theorem dX0_pressureAt_33 : decode cX0_pressureAt 33 = .ok (.aload_n 1, 1) := by decide +kernel
theorem dX0_pressureAt_34 : decode cX0_pressureAt 34 = .ok (.aload_n 2, 1) := by decide +kernel
theorem dX0_pressureAt_35 : decode cX0_pressureAt 35 = .ok (.iload_n 3, 1) := by decide +kernel
theorem dX0_pressureAt_36 : decode cX0_pressureAt 36 = .ok (.invokestatic 35, 3) := by decide +kernel
theorem dX0_pressureAt_39 : decode cX0_pressureAt 39 = .ok (.invokevirtual 38, 3) := by decide +kernel
theorem dX0_pressureAt_42 : decode cX0_pressureAt 42 = .ok (.ireturn, 1) := by decide +kernel
theorem dX0_warmthAt_0 : decode cX0_warmthAt 0 = .ok (.iload_n 3, 1) := by decide +kernel
theorem dX0_warmthAt_1 : decode cX0_warmthAt 1 = .ok (.ifCond .gt 7, 3) := by decide +kernel
theorem dX0_warmthAt_4 : decode cX0_warmthAt 4 = .ok (.aload_n 2, 1) := by decide +kernel
theorem dX0_warmthAt_5 : decode cX0_warmthAt 5 = .ok (.iconst 1, 1) := by decide +kernel
theorem dX0_warmthAt_6 : decode cX0_warmthAt 6 = .ok (.iaload, 1) := by decide +kernel
theorem dX0_warmthAt_7 : decode cX0_warmthAt 7 = .ok (.ireturn, 1) := by decide +kernel
theorem dX0_warmthAt_8 : decode cX0_warmthAt 8 = .ok (.iload_n 3, 1) := by decide +kernel
theorem dX0_warmthAt_9 : decode cX0_warmthAt 9 = .ok (.aload_n 1, 1) := by decide +kernel
theorem dX0_warmthAt_10 : decode cX0_warmthAt 10 = .ok (.getfield 29, 3) := by decide +kernel
theorem dX0_warmthAt_13 : decode cX0_warmthAt 13 = .ok (.if_icmp .lt 7, 3) := by decide +kernel
theorem dX0_warmthAt_16 : decode cX0_warmthAt 16 = .ok (.aload_n 2, 1) := by decide +kernel
theorem dX0_warmthAt_17 : decode cX0_warmthAt 17 = .ok (.iconst 4, 1) := by decide +kernel
theorem dX0_warmthAt_18 : decode cX0_warmthAt 18 = .ok (.iaload, 1) := by decide +kernel
theorem dX0_warmthAt_19 : decode cX0_warmthAt 19 = .ok (.ireturn, 1) := by decide +kernel
theorem dX0_warmthAt_20 : decode cX0_warmthAt 20 = .ok (.aload_n 0, 1) := by decide +kernel
theorem dX0_warmthAt_21 : decode cX0_warmthAt 21 = .ok (.aload_n 1, 1) := by decide +kernel
theorem dX0_warmthAt_22 : decode cX0_warmthAt 22 = .ok (.aload_n 2, 1) := by decide +kernel
theorem dX0_warmthAt_23 : decode cX0_warmthAt 23 = .ok (.iload_n 3, 1) := by decide +kernel
theorem dX0_warmthAt_24 : decode cX0_warmthAt 24 = .ok (.invokestatic 35, 3) := by decide +kernel
theorem dX0_warmthAt_27 : decode cX0_warmthAt 27 = .ok (.invokevirtual 42, 3) := by decide +kernel
theorem dX0_warmthAt_30 : decode cX0_warmthAt 30 = .ok (.ireturn, 1) := by decide +kernel
theorem dX0_pressureBehind_0 : decode cX0_pressureBehind 0 = .ok (.aload_n 2, 1) := by decide +kernel
theorem dX0_pressureBehind_1 : decode cX0_pressureBehind 1 = .ok (.iconst 0, 1) := by decide +kernel
theorem dX0_pressureBehind_2 : decode cX0_pressureBehind 2 = .ok (.iaload, 1) := by decide +kernel
theorem dX0_pressureBehind_3 : decode cX0_pressureBehind 3 = .ok (.aload_n 2, 1) := by decide +kernel
theorem dX0_pressureBehind_4 : decode cX0_pressureBehind 4 = .ok (.iconst 1, 1) := by decide +kernel
theorem dX0_pressureBehind_5 : decode cX0_pressureBehind 5 = .ok (.iaload, 1) := by decide +kernel
theorem dX0_pressureBehind_6 : decode cX0_pressureBehind 6 = .ok (.invokestatic 26, 3) := by decide +kernel
theorem dX0_pressureBehind_9 : decode cX0_pressureBehind 9 = .ok (.istore 4, 2) := by decide +kernel
theorem dX0_pressureBehind_11 : decode cX0_pressureBehind 11 = .ok (.aload_n 2, 1) := by decide +kernel
theorem dX0_pressureBehind_12 : decode cX0_pressureBehind 12 = .ok (.iconst 3, 1) := by decide +kernel
theorem dX0_pressureBehind_13 : decode cX0_pressureBehind 13 = .ok (.iaload, 1) := by decide +kernel
theorem dX0_pressureBehind_14 : decode cX0_pressureBehind 14 = .ok (.aload_n 2, 1) := by decide +kernel
theorem dX0_pressureBehind_15 : decode cX0_pressureBehind 15 = .ok (.iconst 4, 1) := by decide +kernel
theorem dX0_pressureBehind_16 : decode cX0_pressureBehind 16 = .ok (.iaload, 1) := by decide +kernel
theorem dX0_pressureBehind_17 : decode cX0_pressureBehind 17 = .ok (.invokestatic 26, 3) := by decide +kernel
theorem dX0_pressureBehind_20 : decode cX0_pressureBehind 20 = .ok (.istore 5, 2) := by decide +kernel
theorem dX0_pressureBehind_22 : decode cX0_pressureBehind 22 = .ok (.aload_n 1, 1) := by decide +kernel
theorem dX0_pressureBehind_23 : decode cX0_pressureBehind 23 = .ok (.aload_n 1, 1) := by decide +kernel
theorem dX0_pressureBehind_24 : decode cX0_pressureBehind 24 = .ok (.getfield 45, 3) := by decide +kernel
theorem dX0_pressureBehind_27 : decode cX0_pressureBehind 27 = .ok (.aload_n 1, 1) := by decide +kernel
theorem dX0_pressureBehind_28 : decode cX0_pressureBehind 28 = .ok (.getfield 29, 3) := by decide +kernel
theorem dX0_pressureBehind_31 : decode cX0_pressureBehind 31 = .ok (.invokestatic 35, 3) := by decide +kernel
theorem dX0_pressureBehind_34 : decode cX0_pressureBehind 34 = .ok (.invokevirtual 48, 3) := by decide +kernel
theorem dX0_pressureBehind_37 : decode cX0_pressureBehind 37 = .ok (.istore 6, 2) := by decide +kernel
theorem dX0_pressureBehind_39 : decode cX0_pressureBehind 39 = .ok (.iload 4, 2) := by decide +kernel
theorem dX0_pressureBehind_41 : decode cX0_pressureBehind 41 = .ok (.iload 5, 2) := by decide +kernel
theorem dX0_pressureBehind_43 : decode cX0_pressureBehind 43 = .ok (.aload_n 1, 1) := by decide +kernel
theorem dX0_pressureBehind_44 : decode cX0_pressureBehind 44 = .ok (.aload_n 1, 1) := by decide +kernel
theorem dX0_pressureBehind_45 : decode cX0_pressureBehind 45 = .ok (.getfield 45, 3) := by decide +kernel
theorem dX0_pressureBehind_48 : decode cX0_pressureBehind 48 = .ok (.iload_n 3, 1) := by decide +kernel
theorem dX0_pressureBehind_49 : decode cX0_pressureBehind 49 = .ok (.invokevirtual 48, 3) := by decide +kernel
theorem dX0_pressureBehind_52 : decode cX0_pressureBehind 52 = .ok (.iload 6, 2) := by decide +kernel
theorem dX0_pressureBehind_54 : decode cX0_pressureBehind 54 = .ok (.invokestatic 52, 3) := by decide +kernel
theorem dX0_pressureBehind_57 : decode cX0_pressureBehind 57 = .ok (.ireturn, 1) := by decide +kernel
theorem dX0_warmthBehind_0 : decode cX0_warmthBehind 0 = .ok (.aload_n 1, 1) := by decide +kernel
theorem dX0_warmthBehind_1 : decode cX0_warmthBehind 1 = .ok (.aload_n 1, 1) := by decide +kernel
theorem dX0_warmthBehind_2 : decode cX0_warmthBehind 2 = .ok (.getfield 56, 3) := by decide +kernel
theorem dX0_warmthBehind_5 : decode cX0_warmthBehind 5 = .ok (.aload_n 1, 1) := by decide +kernel
theorem dX0_warmthBehind_6 : decode cX0_warmthBehind 6 = .ok (.getfield 29, 3) := by decide +kernel
theorem dX0_warmthBehind_9 : decode cX0_warmthBehind 9 = .ok (.invokestatic 35, 3) := by decide +kernel
theorem dX0_warmthBehind_12 : decode cX0_warmthBehind 12 = .ok (.invokevirtual 48, 3) := by decide +kernel
theorem dX0_warmthBehind_15 : decode cX0_warmthBehind 15 = .ok (.istore 4, 2) := by decide +kernel
theorem dX0_warmthBehind_17 : decode cX0_warmthBehind 17 = .ok (.aload_n 2, 1) := by decide +kernel
theorem dX0_warmthBehind_18 : decode cX0_warmthBehind 18 = .ok (.iconst 1, 1) := by decide +kernel
theorem dX0_warmthBehind_19 : decode cX0_warmthBehind 19 = .ok (.iaload, 1) := by decide +kernel
theorem dX0_warmthBehind_20 : decode cX0_warmthBehind 20 = .ok (.aload_n 2, 1) := by decide +kernel
theorem dX0_warmthBehind_21 : decode cX0_warmthBehind 21 = .ok (.iconst 4, 1) := by decide +kernel
theorem dX0_warmthBehind_22 : decode cX0_warmthBehind 22 = .ok (.iaload, 1) := by decide +kernel
theorem dX0_warmthBehind_23 : decode cX0_warmthBehind 23 = .ok (.aload_n 1, 1) := by decide +kernel
theorem dX0_warmthBehind_24 : decode cX0_warmthBehind 24 = .ok (.aload_n 1, 1) := by decide +kernel
theorem dX0_warmthBehind_25 : decode cX0_warmthBehind 25 = .ok (.getfield 56, 3) := by decide +kernel
theorem dX0_warmthBehind_28 : decode cX0_warmthBehind 28 = .ok (.iload_n 3, 1) := by decide +kernel
theorem dX0_warmthBehind_29 : decode cX0_warmthBehind 29 = .ok (.invokevirtual 48, 3) := by decide +kernel
theorem dX0_warmthBehind_32 : decode cX0_warmthBehind 32 = .ok (.iload 4, 2) := by decide +kernel
theorem dX0_warmthBehind_34 : decode cX0_warmthBehind 34 = .ok (.invokestatic 52, 3) := by decide +kernel
theorem dX0_warmthBehind_37 : decode cX0_warmthBehind 37 = .ok (.ireturn, 1) := by decide +kernel
theorem dX0_excessBehind_0 : decode cX0_excessBehind 0 = .ok (.aload_n 0, 1) := by decide +kernel
theorem dX0_excessBehind_1 : decode cX0_excessBehind 1 = .ok (.aload_n 1, 1) := by decide +kernel
theorem dX0_excessBehind_2 : decode cX0_excessBehind 2 = .ok (.aload_n 2, 1) := by decide +kernel
theorem dX0_excessBehind_3 : decode cX0_excessBehind 3 = .ok (.iload_n 3, 1) := by decide +kernel
theorem dX0_excessBehind_4 : decode cX0_excessBehind 4 = .ok (.invokevirtual 42, 3) := by decide +kernel
theorem dX0_excessBehind_7 : decode cX0_excessBehind 7 = .ok (.invokestatic 18, 3) := by decide +kernel
theorem dX0_excessBehind_10 : decode cX0_excessBehind 10 = .ok (.istore 4, 2) := by decide +kernel
theorem dX0_excessBehind_12 : decode cX0_excessBehind 12 = .ok (.aload_n 0, 1) := by decide +kernel
theorem dX0_excessBehind_13 : decode cX0_excessBehind 13 = .ok (.aload_n 1, 1) := by decide +kernel
theorem dX0_excessBehind_14 : decode cX0_excessBehind 14 = .ok (.aload_n 2, 1) := by decide +kernel
theorem dX0_excessBehind_15 : decode cX0_excessBehind 15 = .ok (.iload_n 3, 1) := by decide +kernel
theorem dX0_excessBehind_16 : decode cX0_excessBehind 16 = .ok (.invokevirtual 38, 3) := by decide +kernel
theorem dX0_excessBehind_19 : decode cX0_excessBehind 19 = .ok (.iload 4, 2) := by decide +kernel
theorem dX0_excessBehind_21 : decode cX0_excessBehind 21 = .ok (.isub, 1) := by decide +kernel
theorem dX0_excessBehind_22 : decode cX0_excessBehind 22 = .ok (.iconst 0, 1) := by decide +kernel
theorem dX0_excessBehind_23 : decode cX0_excessBehind 23 = .ok (.invokestatic 59, 3) := by decide +kernel
theorem dX0_excessBehind_26 : decode cX0_excessBehind 26 = .ok (.ireturn, 1) := by decide +kernel
theorem dX0_findBestOrder_0 : decode cX0_findBestOrder 0 = .ok (.aload_n 0, 1) := by decide +kernel
theorem dX0_findBestOrder_1 : decode cX0_findBestOrder 1 = .ok (.aload_n 1, 1) := by decide +kernel
theorem dX0_findBestOrder_2 : decode cX0_findBestOrder 2 = .ok (.aload_n 2, 1) := by decide +kernel
theorem dX0_findBestOrder_3 : decode cX0_findBestOrder 3 = .ok (.invokevirtual 64, 3) := by decide +kernel
theorem dX0_findBestOrder_6 : decode cX0_findBestOrder 6 = .ok (.iconst 0, 1) := by decide +kernel
theorem dX0_findBestOrder_7 : decode cX0_findBestOrder 7 = .ok (.istore_n 3, 1) := by decide +kernel
theorem dX0_findBestOrder_8 : decode cX0_findBestOrder 8 = .ok (.iconst 0, 1) := by decide +kernel
theorem dX0_findBestOrder_9 : decode cX0_findBestOrder 9 = .ok (.istore 4, 2) := by decide +kernel
theorem dX0_findBestOrder_11 : decode cX0_findBestOrder 11 = .ok (.iload 4, 2) := by decide +kernel
theorem dX0_findBestOrder_13 : decode cX0_findBestOrder 13 = .ok (.aload_n 1, 1) := by decide +kernel
theorem dX0_findBestOrder_14 : decode cX0_findBestOrder 14 = .ok (.getfield 29, 3) := by decide +kernel
theorem dX0_findBestOrder_17 : decode cX0_findBestOrder 17 = .ok (.if_icmp .ge 42, 3) := by decide +kernel
theorem dX0_findBestOrder_20 : decode cX0_findBestOrder 20 = .ok (.aload_n 0, 1) := by decide +kernel
theorem dX0_findBestOrder_21 : decode cX0_findBestOrder 21 = .ok (.iload_n 3, 1) := by decide +kernel
theorem dX0_findBestOrder_22 : decode cX0_findBestOrder 22 = .ok (.aload_n 1, 1) := by decide +kernel
theorem dX0_findBestOrder_23 : decode cX0_findBestOrder 23 = .ok (.getfield 29, 3) := by decide +kernel
theorem dX0_findBestOrder_26 : decode cX0_findBestOrder 26 = .ok (.invokevirtual 68, 3) := by decide +kernel
theorem dX0_findBestOrder_29 : decode cX0_findBestOrder 29 = .ok (.istore 5, 2) := by decide +kernel
theorem dX0_findBestOrder_31 : decode cX0_findBestOrder 31 = .ok (.iload 5, 2) := by decide +kernel
theorem dX0_findBestOrder_33 : decode cX0_findBestOrder 33 = .ok (.iconst (-1), 1) := by decide +kernel
theorem dX0_findBestOrder_34 : decode cX0_findBestOrder 34 = .ok (.if_icmp .eq 19, 3) := by decide +kernel
theorem dX0_findBestOrder_37 : decode cX0_findBestOrder 37 = .ok (.aload_n 0, 1) := by decide +kernel
theorem dX0_findBestOrder_38 : decode cX0_findBestOrder 38 = .ok (.getfield 15, 3) := by decide +kernel
theorem dX0_findBestOrder_41 : decode cX0_findBestOrder 41 = .ok (.iload 4, 2) := by decide +kernel
theorem dX0_findBestOrder_43 : decode cX0_findBestOrder 43 = .ok (.iload 5, 2) := by decide +kernel
theorem dX0_findBestOrder_45 : decode cX0_findBestOrder 45 = .ok (.iastore, 1) := by decide +kernel
theorem dX0_findBestOrder_46 : decode cX0_findBestOrder 46 = .ok (.iload_n 3, 1) := by decide +kernel
theorem dX0_findBestOrder_47 : decode cX0_findBestOrder 47 = .ok (.iconst 1, 1) := by decide +kernel
theorem dX0_findBestOrder_48 : decode cX0_findBestOrder 48 = .ok (.iload 5, 2) := by decide +kernel
theorem dX0_findBestOrder_50 : decode cX0_findBestOrder 50 = .ok (.ishl, 1) := by decide +kernel
theorem dX0_findBestOrder_51 : decode cX0_findBestOrder 51 = .ok (.ior, 1) := by decide +kernel
theorem dX0_findBestOrder_52 : decode cX0_findBestOrder 52 = .ok (.istore_n 3, 1) := by decide +kernel
theorem dX0_findBestOrder_53 : decode cX0_findBestOrder 53 = .ok (.iinc 4 1, 3) := by decide +kernel
theorem dX0_findBestOrder_56 : decode cX0_findBestOrder 56 = .ok (.goto (-45), 3) := by decide +kernel
theorem dX0_findBestOrder_59 : decode cX0_findBestOrder 59 = .ok (.aload_n 0, 1) := by decide +kernel
theorem dX0_findBestOrder_60 : decode cX0_findBestOrder 60 = .ok (.getfield 9, 3) := by decide +kernel
theorem dX0_findBestOrder_63 : decode cX0_findBestOrder 63 = .ok (.iconst 0, 1) := by decide +kernel
theorem dX0_findBestOrder_64 : decode cX0_findBestOrder 64 = .ok (.iaload, 1) := by decide +kernel
theorem dX0_findBestOrder_65 : decode cX0_findBestOrder 65 = .ok (.ireturn, 1) := by decide +kernel
theorem dX0_weighSets_0 : decode cX0_weighSets 0 = .ok (.aload_n 1, 1) := by decide +kernel
theorem dX0_weighSets_1 : decode cX0_weighSets 1 = .ok (.getfield 29, 3) := by decide +kernel
theorem dX0_weighSets_4 : decode cX0_weighSets 4 = .ok (.invokestatic 35, 3) := by decide +kernel
theorem dX0_weighSets_7 : decode cX0_weighSets 7 = .ok (.istore_n 3, 1) := by decide +kernel
theorem dX0_weighSets_8 : decode cX0_weighSets 8 = .ok (.aload_n 0, 1) := by decide +kernel
theorem dX0_weighSets_9 : decode cX0_weighSets 9 = .ok (.getfield 9, 3) := by decide +kernel
theorem dX0_weighSets_12 : decode cX0_weighSets 12 = .ok (.iload_n 3, 1) := by decide +kernel
theorem dX0_weighSets_13 : decode cX0_weighSets 13 = .ok (.iconst 0, 1) := by decide +kernel
theorem dX0_weighSets_14 : decode cX0_weighSets 14 = .ok (.iastore, 1) := by decide +kernel
theorem dX0_weighSets_15 : decode cX0_weighSets 15 = .ok (.iload_n 3, 1) := by decide +kernel
theorem dX0_weighSets_16 : decode cX0_weighSets 16 = .ok (.iconst 1, 1) := by decide +kernel
theorem dX0_weighSets_17 : decode cX0_weighSets 17 = .ok (.isub, 1) := by decide +kernel
theorem dX0_weighSets_18 : decode cX0_weighSets 18 = .ok (.istore 4, 2) := by decide +kernel
theorem dX0_weighSets_20 : decode cX0_weighSets 20 = .ok (.iload 4, 2) := by decide +kernel
theorem dX0_weighSets_22 : decode cX0_weighSets 22 = .ok (.ifCond .lt 72, 3) := by decide +kernel
theorem dX0_weighSets_25 : decode cX0_weighSets 25 = .ok (.aload_n 0, 1) := by decide +kernel
theorem dX0_weighSets_26 : decode cX0_weighSets 26 = .ok (.iload 4, 2) := by decide +kernel
theorem dX0_weighSets_28 : decode cX0_weighSets 28 = .ok (.aload_n 1, 1) := by decide +kernel
theorem dX0_weighSets_29 : decode cX0_weighSets 29 = .ok (.getfield 29, 3) := by decide +kernel
theorem dX0_weighSets_32 : decode cX0_weighSets 32 = .ok (.invokevirtual 68, 3) := by decide +kernel
theorem dX0_weighSets_35 : decode cX0_weighSets 35 = .ok (.istore 5, 2) := by decide +kernel
theorem dX0_weighSets_37 : decode cX0_weighSets 37 = .ok (.iload 5, 2) := by decide +kernel
theorem dX0_weighSets_39 : decode cX0_weighSets 39 = .ok (.iconst (-1), 1) := by decide +kernel
theorem dX0_weighSets_40 : decode cX0_weighSets 40 = .ok (.if_icmp .ne 7, 3) := by decide +kernel
theorem dX0_weighSets_43 : decode cX0_weighSets 43 = .ok (.iconst 0, 1) := by decide +kernel
theorem dX0_weighSets_44 : decode cX0_weighSets 44 = .ok (.goto 15, 3) := by decide +kernel
theorem dX0_weighSets_47 : decode cX0_weighSets 47 = .ok (.aload_n 0, 1) := by decide +kernel
theorem dX0_weighSets_48 : decode cX0_weighSets 48 = .ok (.getfield 9, 3) := by decide +kernel
theorem dX0_weighSets_51 : decode cX0_weighSets 51 = .ok (.iload 4, 2) := by decide +kernel
theorem dX0_weighSets_53 : decode cX0_weighSets 53 = .ok (.iconst 1, 1) := by decide +kernel
theorem dX0_weighSets_54 : decode cX0_weighSets 54 = .ok (.iload 5, 2) := by decide +kernel
theorem dX0_weighSets_56 : decode cX0_weighSets 56 = .ok (.ishl, 1) := by decide +kernel
theorem dX0_weighSets_57 : decode cX0_weighSets 57 = .ok (.ior, 1) := by decide +kernel
theorem dX0_weighSets_58 : decode cX0_weighSets 58 = .ok (.iaload, 1) := by decide +kernel
theorem dX0_weighSets_59 : decode cX0_weighSets 59 = .ok (.istore 6, 2) := by decide +kernel
theorem dX0_weighSets_61 : decode cX0_weighSets 61 = .ok (.aload_n 0, 1) := by decide +kernel
theorem dX0_weighSets_62 : decode cX0_weighSets 62 = .ok (.getfield 9, 3) := by decide +kernel
theorem dX0_weighSets_65 : decode cX0_weighSets 65 = .ok (.iload 4, 2) := by decide +kernel
theorem dX0_weighSets_67 : decode cX0_weighSets 67 = .ok (.iload 6, 2) := by decide +kernel
theorem dX0_weighSets_69 : decode cX0_weighSets 69 = .ok (.iload 4, 2) := by decide +kernel
theorem dX0_weighSets_71 : decode cX0_weighSets 71 = .ok (.ifCond .ne 7, 3) := by decide +kernel
theorem dX0_weighSets_74 : decode cX0_weighSets 74 = .ok (.iconst 0, 1) := by decide +kernel
theorem dX0_weighSets_75 : decode cX0_weighSets 75 = .ok (.goto 11, 3) := by decide +kernel
theorem dX0_weighSets_78 : decode cX0_weighSets 78 = .ok (.aload_n 0, 1) := by decide +kernel
theorem dX0_weighSets_79 : decode cX0_weighSets 79 = .ok (.aload_n 1, 1) := by decide +kernel
theorem dX0_weighSets_80 : decode cX0_weighSets 80 = .ok (.aload_n 2, 1) := by decide +kernel
theorem dX0_weighSets_81 : decode cX0_weighSets 81 = .ok (.iload 4, 2) := by decide +kernel
theorem dX0_weighSets_83 : decode cX0_weighSets 83 = .ok (.invokevirtual 71, 3) := by decide +kernel
theorem dX0_weighSets_86 : decode cX0_weighSets 86 = .ok (.iadd, 1) := by decide +kernel
theorem dX0_weighSets_87 : decode cX0_weighSets 87 = .ok (.iastore, 1) := by decide +kernel
theorem dX0_weighSets_88 : decode cX0_weighSets 88 = .ok (.iinc 4 (-1), 3) := by decide +kernel
theorem dX0_weighSets_91 : decode cX0_weighSets 91 = .ok (.goto (-71), 3) := by decide +kernel
theorem dX0_weighSets_94 : decode cX0_weighSets 94 = .ok (.return_, 1) := by decide +kernel
theorem dX0_bestBehind_0 : decode cX0_bestBehind 0 = .ok (.iconst (-1), 1) := by decide +kernel
theorem dX0_bestBehind_1 : decode cX0_bestBehind 1 = .ok (.istore_n 3, 1) := by decide +kernel
theorem dX0_bestBehind_2 : decode cX0_bestBehind 2 = .ok (.iconst 0, 1) := by decide +kernel
theorem dX0_bestBehind_3 : decode cX0_bestBehind 3 = .ok (.istore 4, 2) := by decide +kernel
theorem dX0_bestBehind_5 : decode cX0_bestBehind 5 = .ok (.iload 4, 2) := by decide +kernel
theorem dX0_bestBehind_7 : decode cX0_bestBehind 7 = .ok (.iload_n 2, 1) := by decide +kernel
theorem dX0_bestBehind_8 : decode cX0_bestBehind 8 = .ok (.if_icmp .ge 62, 3) := by decide +kernel
theorem dX0_bestBehind_11 : decode cX0_bestBehind 11 = .ok (.iload_n 1, 1) := by decide +kernel
theorem dX0_bestBehind_12 : decode cX0_bestBehind 12 = .ok (.iconst 1, 1) := by decide +kernel
theorem dX0_bestBehind_13 : decode cX0_bestBehind 13 = .ok (.iload 4, 2) := by decide +kernel
theorem dX0_bestBehind_15 : decode cX0_bestBehind 15 = .ok (.ishl, 1) := by decide +kernel
theorem dX0_bestBehind_16 : decode cX0_bestBehind 16 = .ok (.iand, 1) := by decide +kernel
theorem dX0_bestBehind_17 : decode cX0_bestBehind 17 = .ok (.ifCond .ne 7, 3) := by decide +kernel
theorem dX0_bestBehind_20 : decode cX0_bestBehind 20 = .ok (.iconst 1, 1) := by decide +kernel
theorem dX0_bestBehind_21 : decode cX0_bestBehind 21 = .ok (.goto 4, 3) := by decide +kernel
theorem dX0_bestBehind_24 : decode cX0_bestBehind 24 = .ok (.iconst 0, 1) := by decide +kernel
theorem dX0_bestBehind_25 : decode cX0_bestBehind 25 = .ok (.istore 5, 2) := by decide +kernel
theorem dX0_bestBehind_27 : decode cX0_bestBehind 27 = .ok (.iload 5, 2) := by decide +kernel
theorem dX0_bestBehind_29 : decode cX0_bestBehind 29 = .ok (.ifCond .eq 35, 3) := by decide +kernel
theorem dX0_bestBehind_32 : decode cX0_bestBehind 32 = .ok (.iload_n 3, 1) := by decide +kernel
theorem dX0_bestBehind_33 : decode cX0_bestBehind 33 = .ok (.iconst (-1), 1) := by decide +kernel
theorem dX0_bestBehind_34 : decode cX0_bestBehind 34 = .ok (.if_icmp .eq 27, 3) := by decide +kernel
theorem dX0_bestBehind_37 : decode cX0_bestBehind 37 = .ok (.aload_n 0, 1) := by decide +kernel
theorem dX0_bestBehind_38 : decode cX0_bestBehind 38 = .ok (.getfield 9, 3) := by decide +kernel
theorem dX0_bestBehind_41 : decode cX0_bestBehind 41 = .ok (.iload_n 1, 1) := by decide +kernel
theorem dX0_bestBehind_42 : decode cX0_bestBehind 42 = .ok (.iconst 1, 1) := by decide +kernel
theorem dX0_bestBehind_43 : decode cX0_bestBehind 43 = .ok (.iload 4, 2) := by decide +kernel
theorem dX0_bestBehind_45 : decode cX0_bestBehind 45 = .ok (.ishl, 1) := by decide +kernel
theorem dX0_bestBehind_46 : decode cX0_bestBehind 46 = .ok (.ior, 1) := by decide +kernel
theorem dX0_bestBehind_47 : decode cX0_bestBehind 47 = .ok (.iaload, 1) := by decide +kernel
theorem dX0_bestBehind_48 : decode cX0_bestBehind 48 = .ok (.aload_n 0, 1) := by decide +kernel
theorem dX0_bestBehind_49 : decode cX0_bestBehind 49 = .ok (.getfield 9, 3) := by decide +kernel
theorem dX0_bestBehind_52 : decode cX0_bestBehind 52 = .ok (.iload_n 1, 1) := by decide +kernel
theorem dX0_bestBehind_53 : decode cX0_bestBehind 53 = .ok (.iconst 1, 1) := by decide +kernel
theorem dX0_bestBehind_54 : decode cX0_bestBehind 54 = .ok (.iload_n 3, 1) := by decide +kernel
theorem dX0_bestBehind_55 : decode cX0_bestBehind 55 = .ok (.ishl, 1) := by decide +kernel
theorem dX0_bestBehind_56 : decode cX0_bestBehind 56 = .ok (.ior, 1) := by decide +kernel
theorem dX0_bestBehind_57 : decode cX0_bestBehind 57 = .ok (.iaload, 1) := by decide +kernel
theorem dX0_bestBehind_58 : decode cX0_bestBehind 58 = .ok (.if_icmp .ge 6, 3) := by decide +kernel
theorem dX0_bestBehind_61 : decode cX0_bestBehind 61 = .ok (.iload 4, 2) := by decide +kernel
theorem dX0_bestBehind_63 : decode cX0_bestBehind 63 = .ok (.istore_n 3, 1) := by decide +kernel
theorem dX0_bestBehind_64 : decode cX0_bestBehind 64 = .ok (.iinc 4 1, 3) := by decide +kernel
theorem dX0_bestBehind_67 : decode cX0_bestBehind 67 = .ok (.goto (-62), 3) := by decide +kernel
theorem dX0_bestBehind_70 : decode cX0_bestBehind 70 = .ok (.iload_n 3, 1) := by decide +kernel
theorem dX0_bestBehind_71 : decode cX0_bestBehind 71 = .ok (.ireturn, 1) := by decide +kernel
theorem dX1_init_0 : decode cX1_init 0 = .ok (.aload_n 0, 1) := by decide +kernel
theorem dX1_init_1 : decode cX1_init 1 = .ok (.invokespecial 3, 3) := by decide +kernel
theorem dX1_init_4 : decode cX1_init 4 = .ok (.aload_n 0, 1) := by decide +kernel
theorem dX1_init_5 : decode cX1_init 5 = .ok (.iconst 3, 1) := by decide +kernel
theorem dX1_init_6 : decode cX1_init 6 = .ok (.iconst 5, 1) := by decide +kernel
theorem dX1_init_7 : decode cX1_init 7 = .ok (.multianewarray 9 2, 4) := by decide +kernel
theorem dX1_init_11 : decode cX1_init 11 = .ok (.putfield 11, 3) := by decide +kernel
theorem dX1_init_14 : decode cX1_init 14 = .ok (.aload_n 0, 1) := by decide +kernel
theorem dX1_init_15 : decode cX1_init 15 = .ok (.bipush 6, 2) := by decide +kernel
theorem dX1_init_17 : decode cX1_init 17 = .ok (.newarray .int, 2) := by decide +kernel
theorem dX1_init_19 : decode cX1_init 19 = .ok (.putfield 16, 3) := by decide +kernel
theorem dX1_init_22 : decode cX1_init 22 = .ok (.aload_n 0, 1) := by decide +kernel
theorem dX1_init_23 : decode cX1_init 23 = .ok (.bipush 6, 2) := by decide +kernel
theorem dX1_init_25 : decode cX1_init 25 = .ok (.newarray .int, 2) := by decide +kernel
theorem dX1_init_27 : decode cX1_init 27 = .ok (.putfield 20, 3) := by decide +kernel
theorem dX1_init_30 : decode cX1_init 30 = .ok (.aload_n 0, 1) := by decide +kernel
theorem dX1_init_31 : decode cX1_init 31 = .ok (.bipush 6, 2) := by decide +kernel
theorem dX1_init_33 : decode cX1_init 33 = .ok (.newarray .int, 2) := by decide +kernel
theorem dX1_init_35 : decode cX1_init 35 = .ok (.putfield 23, 3) := by decide +kernel
theorem dX1_init_38 : decode cX1_init 38 = .ok (.aload_n 0, 1) := by decide +kernel
theorem dX1_init_39 : decode cX1_init 39 = .ok (.bipush 6, 2) := by decide +kernel
theorem dX1_init_41 : decode cX1_init 41 = .ok (.newarray .int, 2) := by decide +kernel
theorem dX1_init_43 : decode cX1_init 43 = .ok (.putfield 26, 3) := by decide +kernel
theorem dX1_init_46 : decode cX1_init 46 = .ok (.aload_n 0, 1) := by decide +kernel
theorem dX1_init_47 : decode cX1_init 47 = .ok (.bipush 6, 2) := by decide +kernel
theorem dX1_init_49 : decode cX1_init 49 = .ok (.newarray .int, 2) := by decide +kernel
theorem dX1_init_51 : decode cX1_init 51 = .ok (.putfield 29, 3) := by decide +kernel
theorem dX1_init_54 : decode cX1_init 54 = .ok (.aload_n 0, 1) := by decide +kernel
theorem dX1_init_55 : decode cX1_init 55 = .ok (.bipush 6, 2) := by decide +kernel
theorem dX1_init_57 : decode cX1_init 57 = .ok (.newarray .int, 2) := by decide +kernel
theorem dX1_init_59 : decode cX1_init 59 = .ok (.putfield 32, 3) := by decide +kernel
theorem dX1_init_62 : decode cX1_init 62 = .ok (.aload_n 0, 1) := by decide +kernel
theorem dX1_init_63 : decode cX1_init 63 = .ok (.bipush 6, 2) := by decide +kernel
theorem dX1_init_65 : decode cX1_init 65 = .ok (.newarray .int, 2) := by decide +kernel
theorem dX1_init_67 : decode cX1_init 67 = .ok (.putfield 35, 3) := by decide +kernel
theorem dX1_init_70 : decode cX1_init 70 = .ok (.aload_n 0, 1) := by decide +kernel
theorem dX1_init_71 : decode cX1_init 71 = .ok (.bipush 6, 2) := by decide +kernel
theorem dX1_init_73 : decode cX1_init 73 = .ok (.newarray .int, 2) := by decide +kernel
theorem dX1_init_75 : decode cX1_init 75 = .ok (.putfield 38, 3) := by decide +kernel
theorem dX1_init_78 : decode cX1_init 78 = .ok (.aload_n 0, 1) := by decide +kernel
theorem dX1_init_79 : decode cX1_init 79 = .ok (.iconst 5, 1) := by decide +kernel
theorem dX1_init_80 : decode cX1_init 80 = .ok (.newarray .int, 2) := by decide +kernel
theorem dX1_init_82 : decode cX1_init 82 = .ok (.putfield 41, 3) := by decide +kernel
theorem dX1_init_85 : decode cX1_init 85 = .ok (.aload_n 0, 1) := by decide +kernel
theorem dX1_init_86 : decode cX1_init 86 = .ok (.bipush 6, 2) := by decide +kernel
theorem dX1_init_88 : decode cX1_init 88 = .ok (.newarray .int, 2) := by decide +kernel
theorem dX1_init_90 : decode cX1_init 90 = .ok (.putfield 44, 3) := by decide +kernel
theorem dX1_init_93 : decode cX1_init 93 = .ok (.aload_n 0, 1) := by decide +kernel
theorem dX1_init_94 : decode cX1_init 94 = .ok (.iconst 0, 1) := by decide +kernel
theorem dX1_init_95 : decode cX1_init 95 = .ok (.putfield 47, 3) := by decide +kernel
theorem dX1_init_98 : decode cX1_init 98 = .ok (.iconst 0, 1) := by decide +kernel
theorem dX1_init_99 : decode cX1_init 99 = .ok (.istore_n 1, 1) := by decide +kernel
theorem dX1_init_100 : decode cX1_init 100 = .ok (.iload_n 1, 1) := by decide +kernel
theorem dX1_init_101 : decode cX1_init 101 = .ok (.iconst 3, 1) := by decide +kernel
theorem dX1_init_102 : decode cX1_init 102 = .ok (.if_icmp .ge 24, 3) := by decide +kernel
theorem dX1_init_105 : decode cX1_init 105 = .ok (.getstatic 51, 3) := by decide +kernel
theorem dX1_init_108 : decode cX1_init 108 = .ok (.iconst 0, 1) := by decide +kernel
theorem dX1_init_109 : decode cX1_init 109 = .ok (.aload_n 0, 1) := by decide +kernel
theorem dX1_init_110 : decode cX1_init 110 = .ok (.getfield 11, 3) := by decide +kernel
theorem dX1_init_113 : decode cX1_init 113 = .ok (.iload_n 1, 1) := by decide +kernel
theorem dX1_init_114 : decode cX1_init 114 = .ok (.aaload, 1) := by decide +kernel
theorem dX1_init_115 : decode cX1_init 115 = .ok (.iconst 0, 1) := by decide +kernel
theorem dX1_init_116 : decode cX1_init 116 = .ok (.iconst 5, 1) := by decide +kernel
theorem dX1_init_117 : decode cX1_init 117 = .ok (.invokestatic 54, 3) := by decide +kernel
theorem dX1_init_120 : decode cX1_init 120 = .ok (.iinc 1 1, 3) := by decide +kernel
theorem dX1_init_123 : decode cX1_init 123 = .ok (.goto (-23), 3) := by decide +kernel
theorem dX1_init_126 : decode cX1_init 126 = .ok (.return_, 1) := by decide +kernel
theorem dX1_firstLayers_0 : decode cX1_firstLayers 0 = .ok (.iconst 1, 1) := by decide +kernel
theorem dX1_firstLayers_1 : decode cX1_firstLayers 1 = .ok (.iload_n 0, 1) := by decide +kernel
theorem dX1_firstLayers_2 : decode cX1_firstLayers 2 = .ok (.ishl, 1) := by decide +kernel
theorem dX1_firstLayers_3 : decode cX1_firstLayers 3 = .ok (.iconst 1, 1) := by decide +kernel
theorem dX1_firstLayers_4 : decode cX1_firstLayers 4 = .ok (.isub, 1) := by decide +kernel
theorem dX1_firstLayers_5 : decode cX1_firstLayers 5 = .ok (.ireturn, 1) := by decide +kernel
theorem dX1_has_0 : decode cX1_has 0 = .ok (.iload_n 1, 1) := by decide +kernel
theorem dX1_has_1 : decode cX1_has 1 = .ok (.ifCond .lt 15, 3) := by decide +kernel
theorem dX1_has_4 : decode cX1_has 4 = .ok (.iload_n 1, 1) := by decide +kernel
theorem dX1_has_5 : decode cX1_has 5 = .ok (.aload_n 0, 1) := by decide +kernel
theorem dX1_has_6 : decode cX1_has 6 = .ok (.getfield 47, 3) := by decide +kernel
theorem dX1_has_9 : decode cX1_has 9 = .ok (.if_icmp .ge 7, 3) := by decide +kernel
theorem dX1_has_12 : decode cX1_has 12 = .ok (.iconst 1, 1) := by decide +kernel
theorem dX1_has_13 : decode cX1_has 13 = .ok (.goto 4, 3) := by decide +kernel
theorem dX1_has_16 : decode cX1_has 16 = .ok (.iconst 0, 1) := by decide +kernel
theorem dX1_has_17 : decode cX1_has 17 = .ok (.ireturn, 1) := by decide +kernel
theorem dX1_addInside_0 : decode cX1_addInside 0 = .ok (.aload_n 0, 1) := by decide +kernel
theorem dX1_addInside_1 : decode cX1_addInside 1 = .ok (.getfield 47, 3) := by decide +kernel
theorem dX1_addInside_4 : decode cX1_addInside 4 = .ok (.bipush 6, 2) := by decide +kernel
theorem dX1_addInside_6 : decode cX1_addInside 6 = .ok (.if_icmp .lt 4, 3) := by decide +kernel
theorem dX1_addInside_9 : decode cX1_addInside 9 = .ok (.return_, 1) := by decide +kernel
theorem dX1_addInside_10 : decode cX1_addInside 10 = .ok (.aload_n 0, 1) := by decide +kernel
theorem dX1_addInside_11 : decode cX1_addInside 11 = .ok (.getfield 16, 3) := by decide +kernel
theorem dX1_addInside_14 : decode cX1_addInside 14 = .ok (.aload_n 0, 1) := by decide +kernel
theorem dX1_addInside_15 : decode cX1_addInside 15 = .ok (.getfield 47, 3) := by decide +kernel
theorem dX1_addInside_18 : decode cX1_addInside 18 = .ok (.iload_n 1, 1) := by decide +kernel
theorem dX1_addInside_19 : decode cX1_addInside 19 = .ok (.iastore, 1) := by decide +kernel
theorem dX1_addInside_20 : decode cX1_addInside 20 = .ok (.aload_n 0, 1) := by decide +kernel
theorem dX1_addInside_21 : decode cX1_addInside 21 = .ok (.getfield 20, 3) := by decide +kernel
theorem dX1_addInside_24 : decode cX1_addInside 24 = .ok (.aload_n 0, 1) := by decide +kernel
theorem dX1_addInside_25 : decode cX1_addInside 25 = .ok (.getfield 47, 3) := by decide +kernel
theorem dX1_addInside_28 : decode cX1_addInside 28 = .ok (.iload_n 2, 1) := by decide +kernel
theorem dX1_addInside_29 : decode cX1_addInside 29 = .ok (.iastore, 1) := by decide +kernel
theorem dX1_addInside_30 : decode cX1_addInside 30 = .ok (.aload_n 0, 1) := by decide +kernel
theorem dX1_addInside_31 : decode cX1_addInside 31 = .ok (.getfield 23, 3) := by decide +kernel
theorem dX1_addInside_34 : decode cX1_addInside 34 = .ok (.aload_n 0, 1) := by decide +kernel
theorem dX1_addInside_35 : decode cX1_addInside 35 = .ok (.getfield 47, 3) := by decide +kernel
theorem dX1_addInside_38 : decode cX1_addInside 38 = .ok (.iload_n 3, 1) := by decide +kernel
theorem dX1_addInside_39 : decode cX1_addInside 39 = .ok (.iastore, 1) := by decide +kernel
theorem dX1_addInside_40 : decode cX1_addInside 40 = .ok (.aload_n 0, 1) := by decide +kernel
theorem dX1_addInside_41 : decode cX1_addInside 41 = .ok (.getfield 26, 3) := by decide +kernel
theorem dX1_addInside_44 : decode cX1_addInside 44 = .ok (.aload_n 0, 1) := by decide +kernel
theorem dX1_addInside_45 : decode cX1_addInside 45 = .ok (.getfield 47, 3) := by decide +kernel
theorem dX1_addInside_48 : decode cX1_addInside 48 = .ok (.iload 4, 2) := by decide +kernel
theorem dX1_addInside_50 : decode cX1_addInside 50 = .ok (.iastore, 1) := by decide +kernel
theorem dX1_addInside_51 : decode cX1_addInside 51 = .ok (.aload_n 0, 1) := by decide +kernel
theorem dX1_addInside_52 : decode cX1_addInside 52 = .ok (.getfield 29, 3) := by decide +kernel
theorem dX1_addInside_55 : decode cX1_addInside 55 = .ok (.aload_n 0, 1) := by decide +kernel
theorem dX1_addInside_56 : decode cX1_addInside 56 = .ok (.getfield 47, 3) := by decide +kernel
theorem dX1_addInside_59 : decode cX1_addInside 59 = .ok (.iconst 0, 1) := by decide +kernel
theorem dX1_addInside_60 : decode cX1_addInside 60 = .ok (.iastore, 1) := by decide +kernel
theorem dX1_addInside_61 : decode cX1_addInside 61 = .ok (.aload_n 0, 1) := by decide +kernel
theorem dX1_addInside_62 : decode cX1_addInside 62 = .ok (.getfield 32, 3) := by decide +kernel
theorem dX1_addInside_65 : decode cX1_addInside 65 = .ok (.aload_n 0, 1) := by decide +kernel
theorem dX1_addInside_66 : decode cX1_addInside 66 = .ok (.getfield 47, 3) := by decide +kernel
theorem dX1_addInside_69 : decode cX1_addInside 69 = .ok (.iconst 0, 1) := by decide +kernel
theorem dX1_addInside_70 : decode cX1_addInside 70 = .ok (.iastore, 1) := by decide +kernel
theorem dX1_addInside_71 : decode cX1_addInside 71 = .ok (.aload_n 0, 1) := by decide +kernel
theorem dX1_addInside_72 : decode cX1_addInside 72 = .ok (.getfield 35, 3) := by decide +kernel
theorem dX1_addInside_75 : decode cX1_addInside 75 = .ok (.aload_n 0, 1) := by decide +kernel
theorem dX1_addInside_76 : decode cX1_addInside 76 = .ok (.getfield 47, 3) := by decide +kernel
theorem dX1_addInside_79 : decode cX1_addInside 79 = .ok (.iconst 0, 1) := by decide +kernel
theorem dX1_addInside_80 : decode cX1_addInside 80 = .ok (.iastore, 1) := by decide +kernel
theorem dX1_addInside_81 : decode cX1_addInside 81 = .ok (.aload_n 0, 1) := by decide +kernel
theorem dX1_addInside_82 : decode cX1_addInside 82 = .ok (.getfield 38, 3) := by decide +kernel
theorem dX1_addInside_85 : decode cX1_addInside 85 = .ok (.aload_n 0, 1) := by decide +kernel
theorem dX1_addInside_86 : decode cX1_addInside 86 = .ok (.getfield 47, 3) := by decide +kernel
theorem dX1_addInside_89 : decode cX1_addInside 89 = .ok (.iconst 0, 1) := by decide +kernel
theorem dX1_addInside_90 : decode cX1_addInside 90 = .ok (.iastore, 1) := by decide +kernel
theorem dX1_addInside_91 : decode cX1_addInside 91 = .ok (.aload_n 0, 1) := by decide +kernel
theorem dX1_addInside_92 : decode cX1_addInside 92 = .ok (.dup, 1) := by decide +kernel
theorem dX1_addInside_93 : decode cX1_addInside 93 = .ok (.getfield 47, 3) := by decide +kernel
theorem dX1_addInside_96 : decode cX1_addInside 96 = .ok (.iconst 1, 1) := by decide +kernel
theorem dX1_addInside_97 : decode cX1_addInside 97 = .ok (.iadd, 1) := by decide +kernel
theorem dX1_addInside_98 : decode cX1_addInside 98 = .ok (.putfield 47, 3) := by decide +kernel
theorem dX1_addInside_101 : decode cX1_addInside 101 = .ok (.return_, 1) := by decide +kernel
theorem dX1_empty_0 : decode cX1_empty 0 = .ok (.aload_n 0, 1) := by decide +kernel
theorem dX1_empty_1 : decode cX1_empty 1 = .ok (.iconst 0, 1) := by decide +kernel
theorem dX1_empty_2 : decode cX1_empty 2 = .ok (.putfield 47, 3) := by decide +kernel
theorem dX1_empty_5 : decode cX1_empty 5 = .ok (.iconst 0, 1) := by decide +kernel
theorem dX1_empty_6 : decode cX1_empty 6 = .ok (.istore_n 1, 1) := by decide +kernel
theorem dX1_empty_7 : decode cX1_empty 7 = .ok (.iload_n 1, 1) := by decide +kernel
theorem dX1_empty_8 : decode cX1_empty 8 = .ok (.iconst 5, 1) := by decide +kernel
theorem dX1_empty_9 : decode cX1_empty 9 = .ok (.if_icmp .ge 16, 3) := by decide +kernel
theorem dX1_empty_12 : decode cX1_empty 12 = .ok (.aload_n 0, 1) := by decide +kernel
theorem dX1_empty_13 : decode cX1_empty 13 = .ok (.getfield 41, 3) := by decide +kernel
theorem dX1_empty_16 : decode cX1_empty 16 = .ok (.iload_n 1, 1) := by decide +kernel
theorem dX1_empty_17 : decode cX1_empty 17 = .ok (.iconst 0, 1) := by decide +kernel
theorem dX1_empty_18 : decode cX1_empty 18 = .ok (.iastore, 1) := by decide +kernel
theorem dX1_empty_19 : decode cX1_empty 19 = .ok (.iinc 1 1, 3) := by decide +kernel
theorem dX1_empty_22 : decode cX1_empty 22 = .ok (.goto (-15), 3) := by decide +kernel
theorem dX1_empty_25 : decode cX1_empty 25 = .ok (.return_, 1) := by decide +kernel
theorem dX1_becomeAs_0 : decode cX1_becomeAs 0 = .ok (.iconst 0, 1) := by decide +kernel
theorem dX1_becomeAs_1 : decode cX1_becomeAs 1 = .ok (.istore_n 2, 1) := by decide +kernel
theorem dX1_becomeAs_2 : decode cX1_becomeAs 2 = .ok (.iload_n 2, 1) := by decide +kernel
theorem dX1_becomeAs_3 : decode cX1_becomeAs 3 = .ok (.iconst 3, 1) := by decide +kernel
theorem dX1_becomeAs_4 : decode cX1_becomeAs 4 = .ok (.if_icmp .ge 27, 3) := by decide +kernel
theorem dX1_becomeAs_7 : decode cX1_becomeAs 7 = .ok (.aload_n 1, 1) := by decide +kernel
theorem dX1_becomeAs_8 : decode cX1_becomeAs 8 = .ok (.getfield 11, 3) := by decide +kernel
theorem dX1_becomeAs_11 : decode cX1_becomeAs 11 = .ok (.iload_n 2, 1) := by decide +kernel
theorem dX1_becomeAs_12 : decode cX1_becomeAs 12 = .ok (.aaload, 1) := by decide +kernel
theorem dX1_becomeAs_13 : decode cX1_becomeAs 13 = .ok (.iconst 0, 1) := by decide +kernel
theorem dX1_becomeAs_14 : decode cX1_becomeAs 14 = .ok (.aload_n 0, 1) := by decide +kernel
theorem dX1_becomeAs_15 : decode cX1_becomeAs 15 = .ok (.getfield 11, 3) := by decide +kernel
theorem dX1_becomeAs_18 : decode cX1_becomeAs 18 = .ok (.iload_n 2, 1) := by decide +kernel
theorem dX1_becomeAs_19 : decode cX1_becomeAs 19 = .ok (.aaload, 1) := by decide +kernel
theorem dX1_becomeAs_20 : decode cX1_becomeAs 20 = .ok (.iconst 0, 1) := by decide +kernel
theorem dX1_becomeAs_21 : decode cX1_becomeAs 21 = .ok (.iconst 5, 1) := by decide +kernel
theorem dX1_becomeAs_22 : decode cX1_becomeAs 22 = .ok (.invokestatic 54, 3) := by decide +kernel
theorem dX1_becomeAs_25 : decode cX1_becomeAs 25 = .ok (.iinc 2 1, 3) := by decide +kernel
theorem dX1_becomeAs_28 : decode cX1_becomeAs 28 = .ok (.goto (-26), 3) := by decide +kernel
theorem dX1_becomeAs_31 : decode cX1_becomeAs 31 = .ok (.aload_n 1, 1) := by decide +kernel
theorem dX1_becomeAs_32 : decode cX1_becomeAs 32 = .ok (.getfield 16, 3) := by decide +kernel
theorem dX1_becomeAs_35 : decode cX1_becomeAs 35 = .ok (.aload_n 0, 1) := by decide +kernel
theorem dX1_becomeAs_36 : decode cX1_becomeAs 36 = .ok (.getfield 16, 3) := by decide +kernel
theorem dX1_becomeAs_39 : decode cX1_becomeAs 39 = .ok (.invokestatic 60, 3) := by decide +kernel
theorem dX1_becomeAs_42 : decode cX1_becomeAs 42 = .ok (.aload_n 1, 1) := by decide +kernel
theorem dX1_becomeAs_43 : decode cX1_becomeAs 43 = .ok (.getfield 20, 3) := by decide +kernel
theorem dX1_becomeAs_46 : decode cX1_becomeAs 46 = .ok (.aload_n 0, 1) := by decide +kernel
theorem dX1_becomeAs_47 : decode cX1_becomeAs 47 = .ok (.getfield 20, 3) := by decide +kernel
theorem dX1_becomeAs_50 : decode cX1_becomeAs 50 = .ok (.invokestatic 60, 3) := by decide +kernel
theorem dX1_becomeAs_53 : decode cX1_becomeAs 53 = .ok (.aload_n 1, 1) := by decide +kernel
theorem dX1_becomeAs_54 : decode cX1_becomeAs 54 = .ok (.getfield 26, 3) := by decide +kernel
theorem dX1_becomeAs_57 : decode cX1_becomeAs 57 = .ok (.aload_n 0, 1) := by decide +kernel
theorem dX1_becomeAs_58 : decode cX1_becomeAs 58 = .ok (.getfield 26, 3) := by decide +kernel
theorem dX1_becomeAs_61 : decode cX1_becomeAs 61 = .ok (.invokestatic 60, 3) := by decide +kernel
theorem dX1_becomeAs_64 : decode cX1_becomeAs 64 = .ok (.aload_n 1, 1) := by decide +kernel
theorem dX1_becomeAs_65 : decode cX1_becomeAs 65 = .ok (.getfield 29, 3) := by decide +kernel
theorem dX1_becomeAs_68 : decode cX1_becomeAs 68 = .ok (.aload_n 0, 1) := by decide +kernel
theorem dX1_becomeAs_69 : decode cX1_becomeAs 69 = .ok (.getfield 29, 3) := by decide +kernel
theorem dX1_becomeAs_72 : decode cX1_becomeAs 72 = .ok (.invokestatic 60, 3) := by decide +kernel
theorem dX1_becomeAs_75 : decode cX1_becomeAs 75 = .ok (.aload_n 0, 1) := by decide +kernel
theorem dX1_becomeAs_76 : decode cX1_becomeAs 76 = .ok (.aload_n 1, 1) := by decide +kernel
theorem dX1_becomeAs_77 : decode cX1_becomeAs 77 = .ok (.getfield 47, 3) := by decide +kernel
theorem dX1_becomeAs_80 : decode cX1_becomeAs 80 = .ok (.putfield 47, 3) := by decide +kernel
theorem dX1_becomeAs_83 : decode cX1_becomeAs 83 = .ok (.return_, 1) := by decide +kernel
theorem dX1_copyRow_0 : decode cX1_copyRow 0 = .ok (.aload_n 0, 1) := by decide +kernel
theorem dX1_copyRow_1 : decode cX1_copyRow 1 = .ok (.iconst 0, 1) := by decide +kernel
theorem dX1_copyRow_2 : decode cX1_copyRow 2 = .ok (.aload_n 1, 1) := by decide +kernel
theorem dX1_copyRow_3 : decode cX1_copyRow 3 = .ok (.iconst 0, 1) := by decide +kernel
theorem dX1_copyRow_4 : decode cX1_copyRow 4 = .ok (.bipush 6, 2) := by decide +kernel
theorem dX1_copyRow_6 : decode cX1_copyRow 6 = .ok (.invokestatic 54, 3) := by decide +kernel
theorem dX1_copyRow_9 : decode cX1_copyRow 9 = .ok (.return_, 1) := by decide +kernel
theorem dX1_standInOrder_0 : decode cX1_standInOrder 0 = .ok (.aload_n 0, 1) := by decide +kernel
theorem dX1_standInOrder_1 : decode cX1_standInOrder 1 = .ok (.aload_n 0, 1) := by decide +kernel
theorem dX1_standInOrder_2 : decode cX1_standInOrder 2 = .ok (.getfield 16, 3) := by decide +kernel
theorem dX1_standInOrder_5 : decode cX1_standInOrder 5 = .ok (.aload_n 1, 1) := by decide +kernel
theorem dX1_standInOrder_6 : decode cX1_standInOrder 6 = .ok (.invokevirtual 64, 3) := by decide +kernel
theorem dX1_standInOrder_9 : decode cX1_standInOrder 9 = .ok (.aload_n 0, 1) := by decide +kernel
theorem dX1_standInOrder_10 : decode cX1_standInOrder 10 = .ok (.aload_n 0, 1) := by decide +kernel
theorem dX1_standInOrder_11 : decode cX1_standInOrder 11 = .ok (.getfield 20, 3) := by decide +kernel
theorem dX1_standInOrder_14 : decode cX1_standInOrder 14 = .ok (.aload_n 1, 1) := by decide +kernel
theorem dX1_standInOrder_15 : decode cX1_standInOrder 15 = .ok (.invokevirtual 64, 3) := by decide +kernel
theorem dX1_standInOrder_18 : decode cX1_standInOrder 18 = .ok (.aload_n 0, 1) := by decide +kernel
theorem dX1_standInOrder_19 : decode cX1_standInOrder 19 = .ok (.aload_n 0, 1) := by decide +kernel
theorem dX1_standInOrder_20 : decode cX1_standInOrder 20 = .ok (.getfield 23, 3) := by decide +kernel
theorem dX1_standInOrder_23 : decode cX1_standInOrder 23 = .ok (.aload_n 1, 1) := by decide +kernel
theorem dX1_standInOrder_24 : decode cX1_standInOrder 24 = .ok (.invokevirtual 64, 3) := by decide +kernel
theorem dX1_standInOrder_27 : decode cX1_standInOrder 27 = .ok (.aload_n 0, 1) := by decide +kernel
theorem dX1_standInOrder_28 : decode cX1_standInOrder 28 = .ok (.aload_n 0, 1) := by decide +kernel
theorem dX1_standInOrder_29 : decode cX1_standInOrder 29 = .ok (.getfield 26, 3) := by decide +kernel
theorem dX1_standInOrder_32 : decode cX1_standInOrder 32 = .ok (.aload_n 1, 1) := by decide +kernel
theorem dX1_standInOrder_33 : decode cX1_standInOrder 33 = .ok (.invokevirtual 64, 3) := by decide +kernel
theorem dX1_standInOrder_36 : decode cX1_standInOrder 36 = .ok (.aload_n 0, 1) := by decide +kernel
theorem dX1_standInOrder_37 : decode cX1_standInOrder 37 = .ok (.aload_n 0, 1) := by decide +kernel
theorem dX1_standInOrder_38 : decode cX1_standInOrder 38 = .ok (.getfield 29, 3) := by decide +kernel
theorem dX1_standInOrder_41 : decode cX1_standInOrder 41 = .ok (.aload_n 1, 1) := by decide +kernel
theorem dX1_standInOrder_42 : decode cX1_standInOrder 42 = .ok (.invokevirtual 64, 3) := by decide +kernel
theorem dX1_standInOrder_45 : decode cX1_standInOrder 45 = .ok (.aload_n 0, 1) := by decide +kernel
theorem dX1_standInOrder_46 : decode cX1_standInOrder 46 = .ok (.aload_n 0, 1) := by decide +kernel
theorem dX1_standInOrder_47 : decode cX1_standInOrder 47 = .ok (.getfield 32, 3) := by decide +kernel
theorem dX1_standInOrder_50 : decode cX1_standInOrder 50 = .ok (.aload_n 1, 1) := by decide +kernel
theorem dX1_standInOrder_51 : decode cX1_standInOrder 51 = .ok (.invokevirtual 64, 3) := by decide +kernel
theorem dX1_standInOrder_54 : decode cX1_standInOrder 54 = .ok (.aload_n 0, 1) := by decide +kernel
theorem dX1_standInOrder_55 : decode cX1_standInOrder 55 = .ok (.aload_n 0, 1) := by decide +kernel
theorem dX1_standInOrder_56 : decode cX1_standInOrder 56 = .ok (.getfield 35, 3) := by decide +kernel
theorem dX1_standInOrder_59 : decode cX1_standInOrder 59 = .ok (.aload_n 1, 1) := by decide +kernel
theorem dX1_standInOrder_60 : decode cX1_standInOrder 60 = .ok (.invokevirtual 64, 3) := by decide +kernel
theorem dX1_standInOrder_63 : decode cX1_standInOrder 63 = .ok (.aload_n 0, 1) := by decide +kernel
theorem dX1_standInOrder_64 : decode cX1_standInOrder 64 = .ok (.aload_n 0, 1) := by decide +kernel
theorem dX1_standInOrder_65 : decode cX1_standInOrder 65 = .ok (.getfield 38, 3) := by decide +kernel
theorem dX1_standInOrder_68 : decode cX1_standInOrder 68 = .ok (.aload_n 1, 1) := by decide +kernel
theorem dX1_standInOrder_69 : decode cX1_standInOrder 69 = .ok (.invokevirtual 64, 3) := by decide +kernel
theorem dX1_standInOrder_72 : decode cX1_standInOrder 72 = .ok (.return_, 1) := by decide +kernel
theorem dX1_reorder_0 : decode cX1_reorder 0 = .ok (.aload_n 1, 1) := by decide +kernel
theorem dX1_reorder_1 : decode cX1_reorder 1 = .ok (.aload_n 0, 1) := by decide +kernel
theorem dX1_reorder_2 : decode cX1_reorder 2 = .ok (.getfield 44, 3) := by decide +kernel
theorem dX1_reorder_5 : decode cX1_reorder 5 = .ok (.invokestatic 60, 3) := by decide +kernel
theorem dX1_reorder_8 : decode cX1_reorder 8 = .ok (.iconst 0, 1) := by decide +kernel
theorem dX1_reorder_9 : decode cX1_reorder 9 = .ok (.istore_n 3, 1) := by decide +kernel
theorem dX1_reorder_10 : decode cX1_reorder 10 = .ok (.iload_n 3, 1) := by decide +kernel
theorem dX1_reorder_11 : decode cX1_reorder 11 = .ok (.aload_n 0, 1) := by decide +kernel
theorem dX1_reorder_12 : decode cX1_reorder 12 = .ok (.getfield 47, 3) := by decide +kernel
theorem dX1_reorder_15 : decode cX1_reorder 15 = .ok (.if_icmp .ge 33, 3) := by decide +kernel
theorem dX1_reorder_18 : decode cX1_reorder 18 = .ok (.aload_n 2, 1) := by decide +kernel
theorem dX1_reorder_19 : decode cX1_reorder 19 = .ok (.iload_n 3, 1) := by decide +kernel
theorem dX1_reorder_20 : decode cX1_reorder 20 = .ok (.iaload, 1) := by decide +kernel
theorem dX1_reorder_21 : decode cX1_reorder 21 = .ok (.istore 4, 2) := by decide +kernel
theorem dX1_reorder_23 : decode cX1_reorder 23 = .ok (.aload_n 0, 1) := by decide +kernel
theorem dX1_reorder_24 : decode cX1_reorder 24 = .ok (.iload 4, 2) := by decide +kernel
theorem dX1_reorder_26 : decode cX1_reorder 26 = .ok (.invokevirtual 67, 3) := by decide +kernel
theorem dX1_reorder_29 : decode cX1_reorder 29 = .ok (.ifCond .eq 13, 3) := by decide +kernel
theorem dX1_reorder_32 : decode cX1_reorder 32 = .ok (.aload_n 1, 1) := by decide +kernel
theorem dX1_reorder_33 : decode cX1_reorder 33 = .ok (.iload_n 3, 1) := by decide +kernel
theorem dX1_reorder_34 : decode cX1_reorder 34 = .ok (.aload_n 0, 1) := by decide +kernel
theorem dX1_reorder_35 : decode cX1_reorder 35 = .ok (.getfield 44, 3) := by decide +kernel
theorem dX1_reorder_38 : decode cX1_reorder 38 = .ok (.iload 4, 2) := by decide +kernel
theorem dX1_reorder_40 : decode cX1_reorder 40 = .ok (.iaload, 1) := by decide +kernel
theorem dX1_reorder_41 : decode cX1_reorder 41 = .ok (.iastore, 1) := by decide +kernel
theorem dX1_reorder_42 : decode cX1_reorder 42 = .ok (.iinc 3 1, 3) := by decide +kernel
theorem dX1_reorder_45 : decode cX1_reorder 45 = .ok (.goto (-35), 3) := by decide +kernel
theorem dX1_reorder_48 : decode cX1_reorder 48 = .ok (.return_, 1) := by decide +kernel
theorem dX1_tellOf_0 : decode cX1_tellOf 0 = .ok (.iload_n 2, 1) := by decide +kernel
theorem dX1_tellOf_1 : decode cX1_tellOf 1 = .ok (.tableswitch 102 0 7 #[47, 54, 61, 68, 75, 82, 88, 95], 47) := by decide +kernel
theorem dX1_tellOf_48 : decode cX1_tellOf 48 = .ok (.aload_n 0, 1) := by decide +kernel
theorem dX1_tellOf_49 : decode cX1_tellOf 49 = .ok (.getfield 16, 3) := by decide +kernel
theorem dX1_tellOf_52 : decode cX1_tellOf 52 = .ok (.iload_n 1, 1) := by decide +kernel
theorem dX1_tellOf_53 : decode cX1_tellOf 53 = .ok (.iaload, 1) := by decide +kernel
theorem dX1_tellOf_54 : decode cX1_tellOf 54 = .ok (.ireturn, 1) := by decide +kernel
theorem dX1_tellOf_55 : decode cX1_tellOf 55 = .ok (.aload_n 0, 1) := by decide +kernel
theorem dX1_tellOf_56 : decode cX1_tellOf 56 = .ok (.getfield 20, 3) := by decide +kernel
theorem dX1_tellOf_59 : decode cX1_tellOf 59 = .ok (.iload_n 1, 1) := by decide +kernel
theorem dX1_tellOf_60 : decode cX1_tellOf 60 = .ok (.iaload, 1) := by decide +kernel
theorem dX1_tellOf_61 : decode cX1_tellOf 61 = .ok (.ireturn, 1) := by decide +kernel
theorem dX1_tellOf_62 : decode cX1_tellOf 62 = .ok (.aload_n 0, 1) := by decide +kernel
theorem dX1_tellOf_63 : decode cX1_tellOf 63 = .ok (.getfield 23, 3) := by decide +kernel
theorem dX1_tellOf_66 : decode cX1_tellOf 66 = .ok (.iload_n 1, 1) := by decide +kernel
theorem dX1_tellOf_67 : decode cX1_tellOf 67 = .ok (.iaload, 1) := by decide +kernel
theorem dX1_tellOf_68 : decode cX1_tellOf 68 = .ok (.ireturn, 1) := by decide +kernel
theorem dX1_tellOf_69 : decode cX1_tellOf 69 = .ok (.aload_n 0, 1) := by decide +kernel
theorem dX1_tellOf_70 : decode cX1_tellOf 70 = .ok (.getfield 26, 3) := by decide +kernel
theorem dX1_tellOf_73 : decode cX1_tellOf 73 = .ok (.iload_n 1, 1) := by decide +kernel
theorem dX1_tellOf_74 : decode cX1_tellOf 74 = .ok (.iaload, 1) := by decide +kernel
theorem dX1_tellOf_75 : decode cX1_tellOf 75 = .ok (.ireturn, 1) := by decide +kernel
theorem dX1_tellOf_76 : decode cX1_tellOf 76 = .ok (.aload_n 0, 1) := by decide +kernel
theorem dX1_tellOf_77 : decode cX1_tellOf 77 = .ok (.getfield 29, 3) := by decide +kernel
theorem dX1_tellOf_80 : decode cX1_tellOf 80 = .ok (.iload_n 1, 1) := by decide +kernel
theorem dX1_tellOf_81 : decode cX1_tellOf 81 = .ok (.iaload, 1) := by decide +kernel
theorem dX1_tellOf_82 : decode cX1_tellOf 82 = .ok (.ireturn, 1) := by decide +kernel
theorem dX1_tellOf_83 : decode cX1_tellOf 83 = .ok (.aload_n 0, 1) := by decide +kernel
theorem dX1_tellOf_84 : decode cX1_tellOf 84 = .ok (.iload_n 1, 1) := by decide +kernel
theorem dX1_tellOf_85 : decode cX1_tellOf 85 = .ok (.invokevirtual 71, 3) := by decide +kernel
theorem dX1_tellOf_88 : decode cX1_tellOf 88 = .ok (.ireturn, 1) := by decide +kernel
theorem dX1_tellOf_89 : decode cX1_tellOf 89 = .ok (.aload_n 0, 1) := by decide +kernel
theorem dX1_tellOf_90 : decode cX1_tellOf 90 = .ok (.getfield 32, 3) := by decide +kernel
theorem dX1_tellOf_93 : decode cX1_tellOf 93 = .ok (.iload_n 1, 1) := by decide +kernel
theorem dX1_tellOf_94 : decode cX1_tellOf 94 = .ok (.iaload, 1) := by decide +kernel
theorem dX1_tellOf_95 : decode cX1_tellOf 95 = .ok (.ireturn, 1) := by decide +kernel
theorem dX1_tellOf_96 : decode cX1_tellOf 96 = .ok (.aload_n 0, 1) := by decide +kernel
theorem dX1_tellOf_97 : decode cX1_tellOf 97 = .ok (.getfield 35, 3) := by decide +kernel
theorem dX1_tellOf_100 : decode cX1_tellOf 100 = .ok (.iload_n 1, 1) := by decide +kernel
theorem dX1_tellOf_101 : decode cX1_tellOf 101 = .ok (.iaload, 1) := by decide +kernel
theorem dX1_tellOf_102 : decode cX1_tellOf 102 = .ok (.ireturn, 1) := by decide +kernel
theorem dX1_tellOf_103 : decode cX1_tellOf 103 = .ok (.aload_n 0, 1) := by decide +kernel
theorem dX1_tellOf_104 : decode cX1_tellOf 104 = .ok (.getfield 38, 3) := by decide +kernel
theorem dX1_tellOf_107 : decode cX1_tellOf 107 = .ok (.iload_n 1, 1) := by decide +kernel
theorem dX1_tellOf_108 : decode cX1_tellOf 108 = .ok (.iaload, 1) := by decide +kernel
theorem dX1_tellOf_109 : decode cX1_tellOf 109 = .ok (.ireturn, 1) := by decide +kernel
theorem dX1_dampOf_0 : decode cX1_dampOf 0 = .ok (.aload_n 0, 1) := by decide +kernel
theorem dX1_dampOf_1 : decode cX1_dampOf 1 = .ok (.getfield 11, 3) := by decide +kernel
theorem dX1_dampOf_4 : decode cX1_dampOf 4 = .ok (.aload_n 0, 1) := by decide +kernel
theorem dX1_dampOf_5 : decode cX1_dampOf 5 = .ok (.getfield 26, 3) := by decide +kernel
theorem dX1_dampOf_8 : decode cX1_dampOf 8 = .ok (.iload_n 1, 1) := by decide +kernel
theorem dX1_dampOf_9 : decode cX1_dampOf 9 = .ok (.iaload, 1) := by decide +kernel
theorem dX1_dampOf_10 : decode cX1_dampOf 10 = .ok (.aaload, 1) := by decide +kernel
theorem dX1_dampOf_11 : decode cX1_dampOf 11 = .ok (.astore_n 2, 1) := by decide +kernel
theorem dX1_dampOf_12 : decode cX1_dampOf 12 = .ok (.iconst 4, 1) := by decide +kernel
theorem dX1_dampOf_13 : decode cX1_dampOf 13 = .ok (.aload_n 0, 1) := by decide +kernel
theorem dX1_dampOf_14 : decode cX1_dampOf 14 = .ok (.getfield 29, 3) := by decide +kernel
theorem dX1_dampOf_17 : decode cX1_dampOf 17 = .ok (.iload_n 1, 1) := by decide +kernel
theorem dX1_dampOf_18 : decode cX1_dampOf 18 = .ok (.iaload, 1) := by decide +kernel
theorem dX1_dampOf_19 : decode cX1_dampOf 19 = .ok (.imul, 1) := by decide +kernel
theorem dX1_dampOf_20 : decode cX1_dampOf 20 = .ok (.aload_n 0, 1) := by decide +kernel
theorem dX1_dampOf_21 : decode cX1_dampOf 21 = .ok (.getfield 16, 3) := by decide +kernel
theorem dX1_dampOf_24 : decode cX1_dampOf 24 = .ok (.iload_n 1, 1) := by decide +kernel
theorem dX1_dampOf_25 : decode cX1_dampOf 25 = .ok (.iaload, 1) := by decide +kernel
theorem dX1_dampOf_26 : decode cX1_dampOf 26 = .ok (.invokestatic 75, 3) := by decide +kernel
theorem dX1_dampOf_29 : decode cX1_dampOf 29 = .ok (.istore_n 3, 1) := by decide +kernel
theorem dX1_dampOf_30 : decode cX1_dampOf 30 = .ok (.iload_n 3, 1) := by decide +kernel
theorem dX1_dampOf_31 : decode cX1_dampOf 31 = .ok (.iconst 4, 1) := by decide +kernel
theorem dX1_dampOf_32 : decode cX1_dampOf 32 = .ok (.if_icmp .lt 7, 3) := by decide +kernel
theorem dX1_dampOf_35 : decode cX1_dampOf 35 = .ok (.aload_n 2, 1) := by decide +kernel
theorem dX1_dampOf_36 : decode cX1_dampOf 36 = .ok (.iconst 4, 1) := by decide +kernel
theorem dX1_dampOf_37 : decode cX1_dampOf 37 = .ok (.iaload, 1) := by decide +kernel
theorem dX1_dampOf_38 : decode cX1_dampOf 38 = .ok (.ireturn, 1) := by decide +kernel
theorem dX1_dampOf_39 : decode cX1_dampOf 39 = .ok (.aload_n 2, 1) := by decide +kernel
theorem dX1_dampOf_40 : decode cX1_dampOf 40 = .ok (.iload_n 3, 1) := by decide +kernel
theorem dX1_dampOf_41 : decode cX1_dampOf 41 = .ok (.iconst 1, 1) := by decide +kernel
theorem dX1_dampOf_42 : decode cX1_dampOf 42 = .ok (.iadd, 1) := by decide +kernel
theorem dX1_dampOf_43 : decode cX1_dampOf 43 = .ok (.iaload, 1) := by decide +kernel
theorem dX1_dampOf_44 : decode cX1_dampOf 44 = .ok (.aload_n 2, 1) := by decide +kernel
theorem dX1_dampOf_45 : decode cX1_dampOf 45 = .ok (.iload_n 3, 1) := by decide +kernel
theorem dX1_dampOf_46 : decode cX1_dampOf 46 = .ok (.iaload, 1) := by decide +kernel
theorem dX1_dampOf_47 : decode cX1_dampOf 47 = .ok (.isub, 1) := by decide +kernel
theorem dX1_dampOf_48 : decode cX1_dampOf 48 = .ok (.istore 4, 2) := by decide +kernel
theorem dX1_dampOf_50 : decode cX1_dampOf 50 = .ok (.aload_n 2, 1) := by decide +kernel
theorem dX1_dampOf_51 : decode cX1_dampOf 51 = .ok (.iload_n 3, 1) := by decide +kernel
theorem dX1_dampOf_52 : decode cX1_dampOf 52 = .ok (.iaload, 1) := by decide +kernel
theorem dX1_dampOf_53 : decode cX1_dampOf 53 = .ok (.iload 4, 2) := by decide +kernel
theorem dX1_dampOf_55 : decode cX1_dampOf 55 = .ok (.iconst 4, 1) := by decide +kernel
theorem dX1_dampOf_56 : decode cX1_dampOf 56 = .ok (.aload_n 0, 1) := by decide +kernel
theorem dX1_dampOf_57 : decode cX1_dampOf 57 = .ok (.getfield 29, 3) := by decide +kernel
theorem dX1_dampOf_60 : decode cX1_dampOf 60 = .ok (.iload_n 1, 1) := by decide +kernel
theorem dX1_dampOf_61 : decode cX1_dampOf 61 = .ok (.iaload, 1) := by decide +kernel
theorem dX1_dampOf_62 : decode cX1_dampOf 62 = .ok (.imul, 1) := by decide +kernel
theorem dX1_dampOf_63 : decode cX1_dampOf 63 = .ok (.iload_n 3, 1) := by decide +kernel
theorem dX1_dampOf_64 : decode cX1_dampOf 64 = .ok (.aload_n 0, 1) := by decide +kernel
theorem dX1_dampOf_65 : decode cX1_dampOf 65 = .ok (.getfield 16, 3) := by decide +kernel
theorem dX1_dampOf_68 : decode cX1_dampOf 68 = .ok (.iload_n 1, 1) := by decide +kernel
theorem dX1_dampOf_69 : decode cX1_dampOf 69 = .ok (.iaload, 1) := by decide +kernel
theorem dX1_dampOf_70 : decode cX1_dampOf 70 = .ok (.imul, 1) := by decide +kernel
theorem dX1_dampOf_71 : decode cX1_dampOf 71 = .ok (.isub, 1) := by decide +kernel
theorem dX1_dampOf_72 : decode cX1_dampOf 72 = .ok (.imul, 1) := by decide +kernel
theorem dX1_dampOf_73 : decode cX1_dampOf 73 = .ok (.aload_n 0, 1) := by decide +kernel
theorem dX1_dampOf_74 : decode cX1_dampOf 74 = .ok (.getfield 16, 3) := by decide +kernel
theorem dX1_dampOf_77 : decode cX1_dampOf 77 = .ok (.iload_n 1, 1) := by decide +kernel
theorem dX1_dampOf_78 : decode cX1_dampOf 78 = .ok (.iaload, 1) := by decide +kernel
theorem dX1_dampOf_79 : decode cX1_dampOf 79 = .ok (.invokestatic 75, 3) := by decide +kernel
theorem dX1_dampOf_82 : decode cX1_dampOf 82 = .ok (.iadd, 1) := by decide +kernel
theorem dX1_dampOf_83 : decode cX1_dampOf 83 = .ok (.ireturn, 1) := by decide +kernel
theorem dX1_allWater_0 : decode cX1_allWater 0 = .ok (.iconst 0, 1) := by decide +kernel
theorem dX1_allWater_1 : decode cX1_allWater 1 = .ok (.istore_n 1, 1) := by decide +kernel
theorem dX1_allWater_2 : decode cX1_allWater 2 = .ok (.iconst 0, 1) := by decide +kernel
theorem dX1_allWater_3 : decode cX1_allWater 3 = .ok (.istore_n 2, 1) := by decide +kernel
theorem dX1_allWater_4 : decode cX1_allWater 4 = .ok (.iload_n 2, 1) := by decide +kernel
theorem dX1_allWater_5 : decode cX1_allWater 5 = .ok (.aload_n 0, 1) := by decide +kernel
theorem dX1_allWater_6 : decode cX1_allWater 6 = .ok (.getfield 47, 3) := by decide +kernel
theorem dX1_allWater_9 : decode cX1_allWater 9 = .ok (.if_icmp .ge 18, 3) := by decide +kernel
theorem dX1_allWater_12 : decode cX1_allWater 12 = .ok (.iload_n 1, 1) := by decide +kernel
theorem dX1_allWater_13 : decode cX1_allWater 13 = .ok (.aload_n 0, 1) := by decide +kernel
theorem dX1_allWater_14 : decode cX1_allWater 14 = .ok (.getfield 29, 3) := by decide +kernel
theorem dX1_allWater_17 : decode cX1_allWater 17 = .ok (.iload_n 2, 1) := by decide +kernel
theorem dX1_allWater_18 : decode cX1_allWater 18 = .ok (.iaload, 1) := by decide +kernel
theorem dX1_allWater_19 : decode cX1_allWater 19 = .ok (.iadd, 1) := by decide +kernel
theorem dX1_allWater_20 : decode cX1_allWater 20 = .ok (.istore_n 1, 1) := by decide +kernel
theorem dX1_allWater_21 : decode cX1_allWater 21 = .ok (.iinc 2 1, 3) := by decide +kernel
theorem dX1_allWater_24 : decode cX1_allWater 24 = .ok (.goto (-20), 3) := by decide +kernel
theorem dX1_allWater_27 : decode cX1_allWater 27 = .ok (.iload_n 1, 1) := by decide +kernel
theorem dX1_allWater_28 : decode cX1_allWater 28 = .ok (.ireturn, 1) := by decide +kernel
theorem dX1_holdsSameWaterAs_0 : decode cX1_holdsSameWaterAs 0 = .ok (.iconst 0, 1) := by decide +kernel
theorem dX1_holdsSameWaterAs_1 : decode cX1_holdsSameWaterAs 1 = .ok (.istore_n 2, 1) := by decide +kernel
theorem dX1_holdsSameWaterAs_2 : decode cX1_holdsSameWaterAs 2 = .ok (.iload_n 2, 1) := by decide +kernel
theorem dX1_holdsSameWaterAs_3 : decode cX1_holdsSameWaterAs 3 = .ok (.aload_n 0, 1) := by decide +kernel
theorem dX1_holdsSameWaterAs_4 : decode cX1_holdsSameWaterAs 4 = .ok (.getfield 47, 3) := by decide +kernel
theorem dX1_holdsSameWaterAs_7 : decode cX1_holdsSameWaterAs 7 = .ok (.if_icmp .ge 26, 3) := by decide +kernel
theorem dX1_holdsSameWaterAs_10 : decode cX1_holdsSameWaterAs 10 = .ok (.aload_n 0, 1) := by decide +kernel
theorem dX1_holdsSameWaterAs_11 : decode cX1_holdsSameWaterAs 11 = .ok (.getfield 29, 3) := by decide +kernel
theorem dX1_holdsSameWaterAs_14 : decode cX1_holdsSameWaterAs 14 = .ok (.iload_n 2, 1) := by decide +kernel
theorem dX1_holdsSameWaterAs_15 : decode cX1_holdsSameWaterAs 15 = .ok (.iaload, 1) := by decide +kernel
theorem dX1_holdsSameWaterAs_16 : decode cX1_holdsSameWaterAs 16 = .ok (.aload_n 1, 1) := by decide +kernel
theorem dX1_holdsSameWaterAs_17 : decode cX1_holdsSameWaterAs 17 = .ok (.getfield 29, 3) := by decide +kernel
theorem dX1_holdsSameWaterAs_20 : decode cX1_holdsSameWaterAs 20 = .ok (.iload_n 2, 1) := by decide +kernel
theorem dX1_holdsSameWaterAs_21 : decode cX1_holdsSameWaterAs 21 = .ok (.iaload, 1) := by decide +kernel
theorem dX1_holdsSameWaterAs_22 : decode cX1_holdsSameWaterAs 22 = .ok (.if_icmp .eq 5, 3) := by decide +kernel
theorem dX1_holdsSameWaterAs_25 : decode cX1_holdsSameWaterAs 25 = .ok (.iconst 0, 1) := by decide +kernel
theorem dX1_holdsSameWaterAs_26 : decode cX1_holdsSameWaterAs 26 = .ok (.ireturn, 1) := by decide +kernel
theorem dX1_holdsSameWaterAs_27 : decode cX1_holdsSameWaterAs 27 = .ok (.iinc 2 1, 3) := by decide +kernel
theorem dX1_holdsSameWaterAs_30 : decode cX1_holdsSameWaterAs 30 = .ok (.goto (-28), 3) := by decide +kernel
theorem dX1_holdsSameWaterAs_33 : decode cX1_holdsSameWaterAs 33 = .ok (.iconst 1, 1) := by decide +kernel
theorem dX1_holdsSameWaterAs_34 : decode cX1_holdsSameWaterAs 34 = .ok (.ireturn, 1) := by decide +kernel
theorem dX1_letHourPass_0 : decode cX1_letHourPass 0 = .ok (.aload_n 0, 1) := by decide +kernel
theorem dX1_letHourPass_1 : decode cX1_letHourPass 1 = .ok (.aload_n 1, 1) := by decide +kernel
theorem dX1_letHourPass_2 : decode cX1_letHourPass 2 = .ok (.iload_n 2, 1) := by decide +kernel
theorem dX1_letHourPass_3 : decode cX1_letHourPass 3 = .ok (.invokevirtual 79, 3) := by decide +kernel
theorem dX1_letHourPass_6 : decode cX1_letHourPass 6 = .ok (.aload_n 0, 1) := by decide +kernel
theorem dX1_letHourPass_7 : decode cX1_letHourPass 7 = .ok (.aload_n 1, 1) := by decide +kernel
theorem dX1_letHourPass_8 : decode cX1_letHourPass 8 = .ok (.iconst 1, 1) := by decide +kernel
theorem dX1_letHourPass_9 : decode cX1_letHourPass 9 = .ok (.iaload, 1) := by decide +kernel
theorem dX1_letHourPass_10 : decode cX1_letHourPass 10 = .ok (.aload_n 1, 1) := by decide +kernel
theorem dX1_letHourPass_11 : decode cX1_letHourPass 11 = .ok (.iconst 4, 1) := by decide +kernel
theorem dX1_letHourPass_12 : decode cX1_letHourPass 12 = .ok (.iaload, 1) := by decide +kernel
theorem dX1_letHourPass_13 : decode cX1_letHourPass 13 = .ok (.invokevirtual 83, 3) := by decide +kernel
theorem dX1_letHourPass_16 : decode cX1_letHourPass 16 = .ok (.return_, 1) := by decide +kernel
theorem dX1_moveWater_0 : decode cX1_moveWater 0 = .ok (.aload_n 0, 1) := by decide +kernel
theorem dX1_moveWater_1 : decode cX1_moveWater 1 = .ok (.aload_n 1, 1) := by decide +kernel
theorem dX1_moveWater_2 : decode cX1_moveWater 2 = .ok (.iconst 2, 1) := by decide +kernel
theorem dX1_moveWater_3 : decode cX1_moveWater 3 = .ok (.iaload, 1) := by decide +kernel
theorem dX1_moveWater_4 : decode cX1_moveWater 4 = .ok (.iload_n 2, 1) := by decide +kernel
theorem dX1_moveWater_5 : decode cX1_moveWater 5 = .ok (.imul, 1) := by decide +kernel
theorem dX1_moveWater_6 : decode cX1_moveWater 6 = .ok (.bipush 10, 2) := by decide +kernel
theorem dX1_moveWater_8 : decode cX1_moveWater 8 = .ok (.invokestatic 75, 3) := by decide +kernel
theorem dX1_moveWater_11 : decode cX1_moveWater 11 = .ok (.invokevirtual 87, 3) := by decide +kernel
theorem dX1_moveWater_14 : decode cX1_moveWater 14 = .ok (.iconst 0, 1) := by decide +kernel
theorem dX1_moveWater_15 : decode cX1_moveWater 15 = .ok (.istore_n 3, 1) := by decide +kernel
theorem dX1_moveWater_16 : decode cX1_moveWater 16 = .ok (.iload_n 3, 1) := by decide +kernel
theorem dX1_moveWater_17 : decode cX1_moveWater 17 = .ok (.aload_n 0, 1) := by decide +kernel
theorem dX1_moveWater_18 : decode cX1_moveWater 18 = .ok (.getfield 47, 3) := by decide +kernel
theorem dX1_moveWater_21 : decode cX1_moveWater 21 = .ok (.if_icmp .gt 15, 3) := by decide +kernel
theorem dX1_moveWater_24 : decode cX1_moveWater 24 = .ok (.aload_n 0, 1) := by decide +kernel
theorem dX1_moveWater_25 : decode cX1_moveWater 25 = .ok (.iload_n 3, 1) := by decide +kernel
theorem dX1_moveWater_26 : decode cX1_moveWater 26 = .ok (.aload_n 1, 1) := by decide +kernel
theorem dX1_moveWater_27 : decode cX1_moveWater 27 = .ok (.invokevirtual 91, 3) := by decide +kernel
theorem dX1_moveWater_30 : decode cX1_moveWater 30 = .ok (.iinc 3 1, 3) := by decide +kernel
theorem dX1_moveWater_33 : decode cX1_moveWater 33 = .ok (.goto (-17), 3) := by decide +kernel
theorem dX1_moveWater_36 : decode cX1_moveWater 36 = .ok (.return_, 1) := by decide +kernel
theorem dX1_takeRain_0 : decode cX1_takeRain 0 = .ok (.iload_n 1, 1) := by decide +kernel
theorem dX1_takeRain_1 : decode cX1_takeRain 1 = .ok (.aload_n 0, 1) := by decide +kernel
theorem dX1_takeRain_2 : decode cX1_takeRain 2 = .ok (.iconst 0, 1) := by decide +kernel
theorem dX1_takeRain_3 : decode cX1_takeRain 3 = .ok (.invokevirtual 95, 3) := by decide +kernel
theorem dX1_takeRain_6 : decode cX1_takeRain 6 = .ok (.invokestatic 98, 3) := by decide +kernel
theorem dX1_takeRain_9 : decode cX1_takeRain 9 = .ok (.istore_n 2, 1) := by decide +kernel
theorem dX1_takeRain_10 : decode cX1_takeRain 10 = .ok (.aload_n 0, 1) := by decide +kernel
theorem dX1_takeRain_11 : decode cX1_takeRain 11 = .ok (.getfield 29, 3) := by decide +kernel
theorem dX1_takeRain_14 : decode cX1_takeRain 14 = .ok (.iconst 0, 1) := by decide +kernel
theorem dX1_takeRain_15 : decode cX1_takeRain 15 = .ok (.dup2, 1) := by decide +kernel
theorem dX1_takeRain_16 : decode cX1_takeRain 16 = .ok (.iaload, 1) := by decide +kernel
theorem dX1_takeRain_17 : decode cX1_takeRain 17 = .ok (.iload_n 2, 1) := by decide +kernel
theorem dX1_takeRain_18 : decode cX1_takeRain 18 = .ok (.iadd, 1) := by decide +kernel
theorem dX1_takeRain_19 : decode cX1_takeRain 19 = .ok (.iastore, 1) := by decide +kernel
theorem dX1_takeRain_20 : decode cX1_takeRain 20 = .ok (.aload_n 0, 1) := by decide +kernel
theorem dX1_takeRain_21 : decode cX1_takeRain 21 = .ok (.getfield 41, 3) := by decide +kernel
theorem dX1_takeRain_24 : decode cX1_takeRain 24 = .ok (.iconst 0, 1) := by decide +kernel
theorem dX1_takeRain_25 : decode cX1_takeRain 25 = .ok (.dup2, 1) := by decide +kernel
theorem dX1_takeRain_26 : decode cX1_takeRain 26 = .ok (.iaload, 1) := by decide +kernel
theorem dX1_takeRain_27 : decode cX1_takeRain 27 = .ok (.iload_n 2, 1) := by decide +kernel
theorem dX1_takeRain_28 : decode cX1_takeRain 28 = .ok (.iadd, 1) := by decide +kernel
theorem dX1_takeRain_29 : decode cX1_takeRain 29 = .ok (.iastore, 1) := by decide +kernel
theorem dX1_takeRain_30 : decode cX1_takeRain 30 = .ok (.aload_n 0, 1) := by decide +kernel
theorem dX1_takeRain_31 : decode cX1_takeRain 31 = .ok (.getfield 41, 3) := by decide +kernel
theorem dX1_takeRain_34 : decode cX1_takeRain 34 = .ok (.iconst 1, 1) := by decide +kernel
theorem dX1_takeRain_35 : decode cX1_takeRain 35 = .ok (.dup2, 1) := by decide +kernel
theorem dX1_takeRain_36 : decode cX1_takeRain 36 = .ok (.iaload, 1) := by decide +kernel
theorem dX1_takeRain_37 : decode cX1_takeRain 37 = .ok (.iload_n 1, 1) := by decide +kernel
theorem dX1_takeRain_38 : decode cX1_takeRain 38 = .ok (.iload_n 2, 1) := by decide +kernel
theorem dX1_takeRain_39 : decode cX1_takeRain 39 = .ok (.isub, 1) := by decide +kernel
theorem dX1_takeRain_40 : decode cX1_takeRain 40 = .ok (.iadd, 1) := by decide +kernel
theorem dX1_takeRain_41 : decode cX1_takeRain 41 = .ok (.iastore, 1) := by decide +kernel
theorem dX1_takeRain_42 : decode cX1_takeRain 42 = .ok (.return_, 1) := by decide +kernel
theorem dX1_crossBorder_0 : decode cX1_crossBorder 0 = .ok (.iload_n 1, 1) := by decide +kernel
theorem dX1_crossBorder_1 : decode cX1_crossBorder 1 = .ok (.iconst 1, 1) := by decide +kernel
theorem dX1_crossBorder_2 : decode cX1_crossBorder 2 = .ok (.isub, 1) := by decide +kernel
theorem dX1_crossBorder_3 : decode cX1_crossBorder 3 = .ok (.istore_n 3, 1) := by decide +kernel
theorem dX1_crossBorder_4 : decode cX1_crossBorder 4 = .ok (.aload_n 0, 1) := by decide +kernel
theorem dX1_crossBorder_5 : decode cX1_crossBorder 5 = .ok (.iload_n 3, 1) := by decide +kernel
theorem dX1_crossBorder_6 : decode cX1_crossBorder 6 = .ok (.invokevirtual 67, 3) := by decide +kernel
theorem dX1_crossBorder_9 : decode cX1_crossBorder 9 = .ok (.ifCond .eq 11, 3) := by decide +kernel
theorem dX1_crossBorder_12 : decode cX1_crossBorder 12 = .ok (.aload_n 0, 1) := by decide +kernel
theorem dX1_crossBorder_13 : decode cX1_crossBorder 13 = .ok (.iload_n 3, 1) := by decide +kernel
theorem dX1_crossBorder_14 : decode cX1_crossBorder 14 = .ok (.invokevirtual 71, 3) := by decide +kernel
theorem dX1_crossBorder_17 : decode cX1_crossBorder 17 = .ok (.goto 6, 3) := by decide +kernel
theorem dX1_crossBorder_20 : decode cX1_crossBorder 20 = .ok (.aload_n 2, 1) := by decide +kernel
theorem dX1_crossBorder_21 : decode cX1_crossBorder 21 = .ok (.iconst 0, 1) := by decide +kernel
theorem dX1_crossBorder_22 : decode cX1_crossBorder 22 = .ok (.iaload, 1) := by decide +kernel
theorem dX1_crossBorder_23 : decode cX1_crossBorder 23 = .ok (.istore 4, 2) := by decide +kernel
theorem dX1_crossBorder_25 : decode cX1_crossBorder 25 = .ok (.aload_n 0, 1) := by decide +kernel
theorem dX1_crossBorder_26 : decode cX1_crossBorder 26 = .ok (.iload_n 1, 1) := by decide +kernel
theorem dX1_crossBorder_27 : decode cX1_crossBorder 27 = .ok (.invokevirtual 67, 3) := by decide +kernel
theorem dX1_crossBorder_30 : decode cX1_crossBorder 30 = .ok (.ifCond .eq 11, 3) := by decide +kernel
theorem dX1_crossBorder_33 : decode cX1_crossBorder 33 = .ok (.aload_n 0, 1) := by decide +kernel
theorem dX1_crossBorder_34 : decode cX1_crossBorder 34 = .ok (.iload_n 1, 1) := by decide +kernel
theorem dX1_crossBorder_35 : decode cX1_crossBorder 35 = .ok (.invokevirtual 71, 3) := by decide +kernel
theorem dX1_crossBorder_38 : decode cX1_crossBorder 38 = .ok (.goto 6, 3) := by decide +kernel
theorem dX1_crossBorder_41 : decode cX1_crossBorder 41 = .ok (.aload_n 2, 1) := by decide +kernel
theorem dX1_crossBorder_42 : decode cX1_crossBorder 42 = .ok (.iconst 3, 1) := by decide +kernel
theorem dX1_crossBorder_43 : decode cX1_crossBorder 43 = .ok (.iaload, 1) := by decide +kernel
theorem dX1_crossBorder_44 : decode cX1_crossBorder 44 = .ok (.istore 5, 2) := by decide +kernel
theorem dX1_crossBorder_46 : decode cX1_crossBorder 46 = .ok (.iload 4, 2) := by decide +kernel
theorem dX1_crossBorder_48 : decode cX1_crossBorder 48 = .ok (.iload 5, 2) := by decide +kernel
theorem dX1_crossBorder_50 : decode cX1_crossBorder 50 = .ok (.isub, 1) := by decide +kernel
theorem dX1_crossBorder_51 : decode cX1_crossBorder 51 = .ok (.aload_n 0, 1) := by decide +kernel
theorem dX1_crossBorder_52 : decode cX1_crossBorder 52 = .ok (.iload_n 3, 1) := by decide +kernel
theorem dX1_crossBorder_53 : decode cX1_crossBorder 53 = .ok (.invokevirtual 103, 3) := by decide +kernel
theorem dX1_crossBorder_56 : decode cX1_crossBorder 56 = .ok (.aload_n 0, 1) := by decide +kernel
theorem dX1_crossBorder_57 : decode cX1_crossBorder 57 = .ok (.iload_n 1, 1) := by decide +kernel
theorem dX1_crossBorder_58 : decode cX1_crossBorder 58 = .ok (.invokevirtual 103, 3) := by decide +kernel
theorem dX1_crossBorder_61 : decode cX1_crossBorder 61 = .ok (.iadd, 1) := by decide +kernel
theorem dX1_crossBorder_62 : decode cX1_crossBorder 62 = .ok (.invokestatic 106, 3) := by decide +kernel
theorem dX1_crossBorder_65 : decode cX1_crossBorder 65 = .ok (.istore 6, 2) := by decide +kernel
theorem dX1_crossBorder_67 : decode cX1_crossBorder 67 = .ok (.iload 6, 2) := by decide +kernel
theorem dX1_crossBorder_69 : decode cX1_crossBorder 69 = .ok (.ifCond .le 26, 3) := by decide +kernel
theorem dX1_crossBorder_72 : decode cX1_crossBorder 72 = .ok (.iload 6, 2) := by decide +kernel
theorem dX1_crossBorder_74 : decode cX1_crossBorder 74 = .ok (.aload_n 0, 1) := by decide +kernel
theorem dX1_crossBorder_75 : decode cX1_crossBorder 75 = .ok (.iload_n 3, 1) := by decide +kernel
theorem dX1_crossBorder_76 : decode cX1_crossBorder 76 = .ok (.invokevirtual 109, 3) := by decide +kernel
theorem dX1_crossBorder_79 : decode cX1_crossBorder 79 = .ok (.aload_n 0, 1) := by decide +kernel
theorem dX1_crossBorder_80 : decode cX1_crossBorder 80 = .ok (.iload_n 1, 1) := by decide +kernel
theorem dX1_crossBorder_81 : decode cX1_crossBorder 81 = .ok (.invokevirtual 95, 3) := by decide +kernel
theorem dX1_crossBorder_84 : decode cX1_crossBorder 84 = .ok (.invokestatic 98, 3) := by decide +kernel
theorem dX1_crossBorder_87 : decode cX1_crossBorder 87 = .ok (.invokestatic 98, 3) := by decide +kernel
theorem dX1_crossBorder_90 : decode cX1_crossBorder 90 = .ok (.istore 6, 2) := by decide +kernel
theorem dX1_crossBorder_92 : decode cX1_crossBorder 92 = .ok (.goto 25, 3) := by decide +kernel
theorem dX1_crossBorder_95 : decode cX1_crossBorder 95 = .ok (.iload 6, 2) := by decide +kernel
theorem dX1_crossBorder_97 : decode cX1_crossBorder 97 = .ok (.ineg, 1) := by decide +kernel
theorem dX1_crossBorder_98 : decode cX1_crossBorder 98 = .ok (.aload_n 0, 1) := by decide +kernel
theorem dX1_crossBorder_99 : decode cX1_crossBorder 99 = .ok (.iload_n 1, 1) := by decide +kernel
theorem dX1_crossBorder_100 : decode cX1_crossBorder 100 = .ok (.invokevirtual 109, 3) := by decide +kernel
theorem dX1_crossBorder_103 : decode cX1_crossBorder 103 = .ok (.aload_n 0, 1) := by decide +kernel
theorem dX1_crossBorder_104 : decode cX1_crossBorder 104 = .ok (.iload_n 3, 1) := by decide +kernel
theorem dX1_crossBorder_105 : decode cX1_crossBorder 105 = .ok (.invokevirtual 95, 3) := by decide +kernel
theorem dX1_crossBorder_108 : decode cX1_crossBorder 108 = .ok (.invokestatic 98, 3) := by decide +kernel
theorem dX1_crossBorder_111 : decode cX1_crossBorder 111 = .ok (.invokestatic 98, 3) := by decide +kernel
theorem dX1_crossBorder_114 : decode cX1_crossBorder 114 = .ok (.ineg, 1) := by decide +kernel
theorem dX1_crossBorder_115 : decode cX1_crossBorder 115 = .ok (.istore 6, 2) := by decide +kernel
theorem dX1_crossBorder_117 : decode cX1_crossBorder 117 = .ok (.aload_n 0, 1) := by decide +kernel
theorem dX1_crossBorder_118 : decode cX1_crossBorder 118 = .ok (.iload_n 3, 1) := by decide +kernel
theorem dX1_crossBorder_119 : decode cX1_crossBorder 119 = .ok (.iload 6, 2) := by decide +kernel
theorem dX1_crossBorder_121 : decode cX1_crossBorder 121 = .ok (.ineg, 1) := by decide +kernel
theorem dX1_crossBorder_122 : decode cX1_crossBorder 122 = .ok (.invokevirtual 112, 3) := by decide +kernel
theorem dX1_crossBorder_125 : decode cX1_crossBorder 125 = .ok (.aload_n 0, 1) := by decide +kernel
theorem dX1_crossBorder_126 : decode cX1_crossBorder 126 = .ok (.iload_n 1, 1) := by decide +kernel
theorem dX1_crossBorder_127 : decode cX1_crossBorder 127 = .ok (.iload 6, 2) := by decide +kernel
theorem dX1_crossBorder_129 : decode cX1_crossBorder 129 = .ok (.invokevirtual 112, 3) := by decide +kernel
theorem dX1_crossBorder_132 : decode cX1_crossBorder 132 = .ok (.return_, 1) := by decide +kernel
theorem dX1_steamResist_0 : decode cX1_steamResist 0 = .ok (.aload_n 0, 1) := by decide +kernel
theorem dX1_steamResist_1 : decode cX1_steamResist 1 = .ok (.iload_n 1, 1) := by decide +kernel
theorem dX1_steamResist_2 : decode cX1_steamResist 2 = .ok (.invokevirtual 67, 3) := by decide +kernel
theorem dX1_steamResist_5 : decode cX1_steamResist 5 = .ok (.ifCond .eq 12, 3) := by decide +kernel
theorem dX1_steamResist_8 : decode cX1_steamResist 8 = .ok (.aload_n 0, 1) := by decide +kernel
theorem dX1_steamResist_9 : decode cX1_steamResist 9 = .ok (.getfield 20, 3) := by decide +kernel
theorem dX1_steamResist_12 : decode cX1_steamResist 12 = .ok (.iload_n 1, 1) := by decide +kernel
theorem dX1_steamResist_13 : decode cX1_steamResist 13 = .ok (.iaload, 1) := by decide +kernel
theorem dX1_steamResist_14 : decode cX1_steamResist 14 = .ok (.goto 4, 3) := by decide +kernel
theorem dX1_steamResist_17 : decode cX1_steamResist 17 = .ok (.iconst 1, 1) := by decide +kernel
theorem dX1_steamResist_18 : decode cX1_steamResist 18 = .ok (.ireturn, 1) := by decide +kernel
theorem dX1_waterToGive_0 : decode cX1_waterToGive 0 = .ok (.aload_n 0, 1) := by decide +kernel
theorem dX1_waterToGive_1 : decode cX1_waterToGive 1 = .ok (.iload_n 1, 1) := by decide +kernel
theorem dX1_waterToGive_2 : decode cX1_waterToGive 2 = .ok (.invokevirtual 67, 3) := by decide +kernel
theorem dX1_waterToGive_5 : decode cX1_waterToGive 5 = .ok (.ifCond .eq 12, 3) := by decide +kernel
theorem dX1_waterToGive_8 : decode cX1_waterToGive 8 = .ok (.aload_n 0, 1) := by decide +kernel
theorem dX1_waterToGive_9 : decode cX1_waterToGive 9 = .ok (.getfield 29, 3) := by decide +kernel
theorem dX1_waterToGive_12 : decode cX1_waterToGive 12 = .ok (.iload_n 1, 1) := by decide +kernel
theorem dX1_waterToGive_13 : decode cX1_waterToGive 13 = .ok (.iaload, 1) := by decide +kernel
theorem dX1_waterToGive_14 : decode cX1_waterToGive 14 = .ok (.goto 5, 3) := by decide +kernel
theorem dX1_waterToGive_17 : decode cX1_waterToGive 17 = .ok (.ldc 115, 2) := by decide +kernel
theorem dX1_waterToGive_19 : decode cX1_waterToGive 19 = .ok (.ireturn, 1) := by decide +kernel
theorem dX1_freeRoom_0 : decode cX1_freeRoom 0 = .ok (.aload_n 0, 1) := by decide +kernel
theorem dX1_freeRoom_1 : decode cX1_freeRoom 1 = .ok (.iload_n 1, 1) := by decide +kernel
theorem dX1_freeRoom_2 : decode cX1_freeRoom 2 = .ok (.invokevirtual 67, 3) := by decide +kernel
theorem dX1_freeRoom_5 : decode cX1_freeRoom 5 = .ok (.ifCond .eq 19, 3) := by decide +kernel
theorem dX1_freeRoom_8 : decode cX1_freeRoom 8 = .ok (.aload_n 0, 1) := by decide +kernel
theorem dX1_freeRoom_9 : decode cX1_freeRoom 9 = .ok (.getfield 16, 3) := by decide +kernel
theorem dX1_freeRoom_12 : decode cX1_freeRoom 12 = .ok (.iload_n 1, 1) := by decide +kernel
theorem dX1_freeRoom_13 : decode cX1_freeRoom 13 = .ok (.iaload, 1) := by decide +kernel
theorem dX1_freeRoom_14 : decode cX1_freeRoom 14 = .ok (.aload_n 0, 1) := by decide +kernel
theorem dX1_freeRoom_15 : decode cX1_freeRoom 15 = .ok (.getfield 29, 3) := by decide +kernel
theorem dX1_freeRoom_18 : decode cX1_freeRoom 18 = .ok (.iload_n 1, 1) := by decide +kernel
theorem dX1_freeRoom_19 : decode cX1_freeRoom 19 = .ok (.iaload, 1) := by decide +kernel
theorem dX1_freeRoom_20 : decode cX1_freeRoom 20 = .ok (.isub, 1) := by decide +kernel
theorem dX1_freeRoom_21 : decode cX1_freeRoom 21 = .ok (.goto 5, 3) := by decide +kernel
theorem dX1_freeRoom_24 : decode cX1_freeRoom 24 = .ok (.ldc 115, 2) := by decide +kernel
theorem dX1_freeRoom_26 : decode cX1_freeRoom 26 = .ok (.ireturn, 1) := by decide +kernel
theorem dX1_addWater_0 : decode cX1_addWater 0 = .ok (.aload_n 0, 1) := by decide +kernel
theorem dX1_addWater_1 : decode cX1_addWater 1 = .ok (.iload_n 1, 1) := by decide +kernel
theorem dX1_addWater_2 : decode cX1_addWater 2 = .ok (.invokevirtual 67, 3) := by decide +kernel
theorem dX1_addWater_5 : decode cX1_addWater 5 = .ok (.ifCond .eq 16, 3) := by decide +kernel
theorem dX1_addWater_8 : decode cX1_addWater 8 = .ok (.aload_n 0, 1) := by decide +kernel
theorem dX1_addWater_9 : decode cX1_addWater 9 = .ok (.getfield 29, 3) := by decide +kernel
theorem dX1_addWater_12 : decode cX1_addWater 12 = .ok (.iload_n 1, 1) := by decide +kernel
theorem dX1_addWater_13 : decode cX1_addWater 13 = .ok (.dup2, 1) := by decide +kernel
theorem dX1_addWater_14 : decode cX1_addWater 14 = .ok (.iaload, 1) := by decide +kernel
theorem dX1_addWater_15 : decode cX1_addWater 15 = .ok (.iload_n 2, 1) := by decide +kernel
theorem dX1_addWater_16 : decode cX1_addWater 16 = .ok (.iadd, 1) := by decide +kernel
theorem dX1_addWater_17 : decode cX1_addWater 17 = .ok (.iastore, 1) := by decide +kernel
theorem dX1_addWater_18 : decode cX1_addWater 18 = .ok (.goto 21, 3) := by decide +kernel
theorem dX1_addWater_21 : decode cX1_addWater 21 = .ok (.aload_n 0, 1) := by decide +kernel
theorem dX1_addWater_22 : decode cX1_addWater 22 = .ok (.getfield 41, 3) := by decide +kernel
theorem dX1_addWater_25 : decode cX1_addWater 25 = .ok (.iload_n 1, 1) := by decide +kernel
theorem dX1_addWater_26 : decode cX1_addWater 26 = .ok (.ifCond .ge 7, 3) := by decide +kernel
theorem dX1_addWater_29 : decode cX1_addWater 29 = .ok (.iconst 2, 1) := by decide +kernel
theorem dX1_addWater_30 : decode cX1_addWater 30 = .ok (.goto 4, 3) := by decide +kernel
theorem dX1_addWater_33 : decode cX1_addWater 33 = .ok (.iconst 3, 1) := by decide +kernel
theorem dX1_addWater_34 : decode cX1_addWater 34 = .ok (.dup2, 1) := by decide +kernel
theorem dX1_addWater_35 : decode cX1_addWater 35 = .ok (.iaload, 1) := by decide +kernel
theorem dX1_addWater_36 : decode cX1_addWater 36 = .ok (.iload_n 2, 1) := by decide +kernel
theorem dX1_addWater_37 : decode cX1_addWater 37 = .ok (.isub, 1) := by decide +kernel
theorem dX1_addWater_38 : decode cX1_addWater 38 = .ok (.iastore, 1) := by decide +kernel
theorem dX1_addWater_39 : decode cX1_addWater 39 = .ok (.return_, 1) := by decide +kernel
theorem dX1_feelWarmth_0 : decode cX1_feelWarmth 0 = .ok (.iconst 4, 1) := by decide +kernel
theorem dX1_feelWarmth_1 : decode cX1_feelWarmth 1 = .ok (.iconst 2, 1) := by decide +kernel
theorem dX1_feelWarmth_2 : decode cX1_feelWarmth 2 = .ok (.aload_n 0, 1) := by decide +kernel
theorem dX1_feelWarmth_3 : decode cX1_feelWarmth 3 = .ok (.aload_n 0, 1) := by decide +kernel
theorem dX1_feelWarmth_4 : decode cX1_feelWarmth 4 = .ok (.getfield 23, 3) := by decide +kernel
theorem dX1_feelWarmth_7 : decode cX1_feelWarmth 7 = .ok (.aload_n 0, 1) := by decide +kernel
theorem dX1_feelWarmth_8 : decode cX1_feelWarmth 8 = .ok (.getfield 47, 3) := by decide +kernel
theorem dX1_feelWarmth_11 : decode cX1_feelWarmth 11 = .ok (.invokestatic 116, 3) := by decide +kernel
theorem dX1_feelWarmth_14 : decode cX1_feelWarmth 14 = .ok (.invokevirtual 119, 3) := by decide +kernel
theorem dX1_feelWarmth_17 : decode cX1_feelWarmth 17 = .ok (.imul, 1) := by decide +kernel
theorem dX1_feelWarmth_18 : decode cX1_feelWarmth 18 = .ok (.iadd, 1) := by decide +kernel
theorem dX1_feelWarmth_19 : decode cX1_feelWarmth 19 = .ok (.istore_n 3, 1) := by decide +kernel
theorem dX1_feelWarmth_20 : decode cX1_feelWarmth 20 = .ok (.iconst 0, 1) := by decide +kernel
theorem dX1_feelWarmth_21 : decode cX1_feelWarmth 21 = .ok (.istore 4, 2) := by decide +kernel
theorem dX1_feelWarmth_23 : decode cX1_feelWarmth 23 = .ok (.iconst 0, 1) := by decide +kernel
theorem dX1_feelWarmth_24 : decode cX1_feelWarmth 24 = .ok (.istore 5, 2) := by decide +kernel
theorem dX1_feelWarmth_26 : decode cX1_feelWarmth 26 = .ok (.iload 5, 2) := by decide +kernel
theorem dX1_feelWarmth_28 : decode cX1_feelWarmth 28 = .ok (.aload_n 0, 1) := by decide +kernel
theorem dX1_feelWarmth_29 : decode cX1_feelWarmth 29 = .ok (.getfield 47, 3) := by decide +kernel
theorem dX1_feelWarmth_32 : decode cX1_feelWarmth 32 = .ok (.if_icmp .ge 68, 3) := by decide +kernel
theorem dX1_feelWarmth_35 : decode cX1_feelWarmth 35 = .ok (.iconst 2, 1) := by decide +kernel
theorem dX1_feelWarmth_36 : decode cX1_feelWarmth 36 = .ok (.iconst 2, 1) := by decide +kernel
theorem dX1_feelWarmth_37 : decode cX1_feelWarmth 37 = .ok (.iload 4, 2) := by decide +kernel
theorem dX1_feelWarmth_39 : decode cX1_feelWarmth 39 = .ok (.imul, 1) := by decide +kernel
theorem dX1_feelWarmth_40 : decode cX1_feelWarmth 40 = .ok (.iadd, 1) := by decide +kernel
theorem dX1_feelWarmth_41 : decode cX1_feelWarmth 41 = .ok (.aload_n 0, 1) := by decide +kernel
theorem dX1_feelWarmth_42 : decode cX1_feelWarmth 42 = .ok (.getfield 23, 3) := by decide +kernel
theorem dX1_feelWarmth_45 : decode cX1_feelWarmth 45 = .ok (.iload 5, 2) := by decide +kernel
theorem dX1_feelWarmth_47 : decode cX1_feelWarmth 47 = .ok (.iaload, 1) := by decide +kernel
theorem dX1_feelWarmth_48 : decode cX1_feelWarmth 48 = .ok (.iadd, 1) := by decide +kernel
theorem dX1_feelWarmth_49 : decode cX1_feelWarmth 49 = .ok (.istore 6, 2) := by decide +kernel
theorem dX1_feelWarmth_51 : decode cX1_feelWarmth 51 = .ok (.aload_n 0, 1) := by decide +kernel
theorem dX1_feelWarmth_52 : decode cX1_feelWarmth 52 = .ok (.getfield 38, 3) := by decide +kernel
theorem dX1_feelWarmth_55 : decode cX1_feelWarmth 55 = .ok (.iload 5, 2) := by decide +kernel
theorem dX1_feelWarmth_57 : decode cX1_feelWarmth 57 = .ok (.iload_n 1, 1) := by decide +kernel
theorem dX1_feelWarmth_58 : decode cX1_feelWarmth 58 = .ok (.iload_n 2, 1) := by decide +kernel
theorem dX1_feelWarmth_59 : decode cX1_feelWarmth 59 = .ok (.iload_n 1, 1) := by decide +kernel
theorem dX1_feelWarmth_60 : decode cX1_feelWarmth 60 = .ok (.isub, 1) := by decide +kernel
theorem dX1_feelWarmth_61 : decode cX1_feelWarmth 61 = .ok (.iload 6, 2) := by decide +kernel
theorem dX1_feelWarmth_63 : decode cX1_feelWarmth 63 = .ok (.imul, 1) := by decide +kernel
theorem dX1_feelWarmth_64 : decode cX1_feelWarmth 64 = .ok (.iload_n 3, 1) := by decide +kernel
theorem dX1_feelWarmth_65 : decode cX1_feelWarmth 65 = .ok (.invokestatic 75, 3) := by decide +kernel
theorem dX1_feelWarmth_68 : decode cX1_feelWarmth 68 = .ok (.iadd, 1) := by decide +kernel
theorem dX1_feelWarmth_69 : decode cX1_feelWarmth 69 = .ok (.iastore, 1) := by decide +kernel
theorem dX1_feelWarmth_70 : decode cX1_feelWarmth 70 = .ok (.aload_n 0, 1) := by decide +kernel
theorem dX1_feelWarmth_71 : decode cX1_feelWarmth 71 = .ok (.iload 5, 2) := by decide +kernel
theorem dX1_feelWarmth_73 : decode cX1_feelWarmth 73 = .ok (.invokevirtual 123, 3) := by decide +kernel
theorem dX1_feelWarmth_76 : decode cX1_feelWarmth 76 = .ok (.aload_n 0, 1) := by decide +kernel
theorem dX1_feelWarmth_77 : decode cX1_feelWarmth 77 = .ok (.iload 5, 2) := by decide +kernel
theorem dX1_feelWarmth_79 : decode cX1_feelWarmth 79 = .ok (.invokevirtual 126, 3) := by decide +kernel
theorem dX1_feelWarmth_82 : decode cX1_feelWarmth 82 = .ok (.iload 4, 2) := by decide +kernel
theorem dX1_feelWarmth_84 : decode cX1_feelWarmth 84 = .ok (.aload_n 0, 1) := by decide +kernel
theorem dX1_feelWarmth_85 : decode cX1_feelWarmth 85 = .ok (.getfield 23, 3) := by decide +kernel
theorem dX1_feelWarmth_88 : decode cX1_feelWarmth 88 = .ok (.iload 5, 2) := by decide +kernel
theorem dX1_feelWarmth_90 : decode cX1_feelWarmth 90 = .ok (.iaload, 1) := by decide +kernel
theorem dX1_feelWarmth_91 : decode cX1_feelWarmth 91 = .ok (.iadd, 1) := by decide +kernel
theorem dX1_feelWarmth_92 : decode cX1_feelWarmth 92 = .ok (.istore 4, 2) := by decide +kernel
theorem dX1_feelWarmth_94 : decode cX1_feelWarmth 94 = .ok (.iinc 5 1, 3) := by decide +kernel
theorem dX1_feelWarmth_97 : decode cX1_feelWarmth 97 = .ok (.goto (-71), 3) := by decide +kernel
theorem dX1_feelWarmth_100 : decode cX1_feelWarmth 100 = .ok (.return_, 1) := by decide +kernel
theorem dX1_countFrost_0 : decode cX1_countFrost 0 = .ok (.aload_n 0, 1) := by decide +kernel
theorem dX1_countFrost_1 : decode cX1_countFrost 1 = .ok (.getfield 38, 3) := by decide +kernel
theorem dX1_countFrost_4 : decode cX1_countFrost 4 = .ok (.iload_n 1, 1) := by decide +kernel
theorem dX1_countFrost_5 : decode cX1_countFrost 5 = .ok (.iaload, 1) := by decide +kernel
theorem dX1_countFrost_6 : decode cX1_countFrost 6 = .ok (.ifCond .ge 34, 3) := by decide +kernel
theorem dX1_countFrost_9 : decode cX1_countFrost 9 = .ok (.bipush 10, 2) := by decide +kernel
theorem dX1_countFrost_11 : decode cX1_countFrost 11 = .ok (.aload_n 0, 1) := by decide +kernel
theorem dX1_countFrost_12 : decode cX1_countFrost 12 = .ok (.getfield 29, 3) := by decide +kernel
theorem dX1_countFrost_15 : decode cX1_countFrost 15 = .ok (.iload_n 1, 1) := by decide +kernel
theorem dX1_countFrost_16 : decode cX1_countFrost 16 = .ok (.iaload, 1) := by decide +kernel
theorem dX1_countFrost_17 : decode cX1_countFrost 17 = .ok (.imul, 1) := by decide +kernel
theorem dX1_countFrost_18 : decode cX1_countFrost 18 = .ok (.bipush 9, 2) := by decide +kernel
theorem dX1_countFrost_20 : decode cX1_countFrost 20 = .ok (.aload_n 0, 1) := by decide +kernel
theorem dX1_countFrost_21 : decode cX1_countFrost 21 = .ok (.getfield 16, 3) := by decide +kernel
theorem dX1_countFrost_24 : decode cX1_countFrost 24 = .ok (.iload_n 1, 1) := by decide +kernel
theorem dX1_countFrost_25 : decode cX1_countFrost 25 = .ok (.iaload, 1) := by decide +kernel
theorem dX1_countFrost_26 : decode cX1_countFrost 26 = .ok (.imul, 1) := by decide +kernel
theorem dX1_countFrost_27 : decode cX1_countFrost 27 = .ok (.if_icmp .le 13, 3) := by decide +kernel
theorem dX1_countFrost_30 : decode cX1_countFrost 30 = .ok (.aload_n 0, 1) := by decide +kernel
theorem dX1_countFrost_31 : decode cX1_countFrost 31 = .ok (.getfield 32, 3) := by decide +kernel
theorem dX1_countFrost_34 : decode cX1_countFrost 34 = .ok (.iload_n 1, 1) := by decide +kernel
theorem dX1_countFrost_35 : decode cX1_countFrost 35 = .ok (.dup2, 1) := by decide +kernel
theorem dX1_countFrost_36 : decode cX1_countFrost 36 = .ok (.iaload, 1) := by decide +kernel
theorem dX1_countFrost_37 : decode cX1_countFrost 37 = .ok (.iconst 1, 1) := by decide +kernel
theorem dX1_countFrost_38 : decode cX1_countFrost 38 = .ok (.iadd, 1) := by decide +kernel
theorem dX1_countFrost_39 : decode cX1_countFrost 39 = .ok (.iastore, 1) := by decide +kernel
theorem dX1_countFrost_40 : decode cX1_countFrost 40 = .ok (.return_, 1) := by decide +kernel
theorem dX1_countMould_0 : decode cX1_countMould 0 = .ok (.aload_n 0, 1) := by decide +kernel
theorem dX1_countMould_1 : decode cX1_countMould 1 = .ok (.iload_n 1, 1) := by decide +kernel
theorem dX1_countMould_2 : decode cX1_countMould 2 = .ok (.invokevirtual 71, 3) := by decide +kernel
theorem dX1_countMould_5 : decode cX1_countMould 5 = .ok (.sipush 800, 3) := by decide +kernel
theorem dX1_countMould_8 : decode cX1_countMould 8 = .ok (.if_icmp .lt 36, 3) := by decide +kernel
theorem dX1_countMould_11 : decode cX1_countMould 11 = .ok (.aload_n 0, 1) := by decide +kernel
theorem dX1_countMould_12 : decode cX1_countMould 12 = .ok (.getfield 38, 3) := by decide +kernel
theorem dX1_countMould_15 : decode cX1_countMould 15 = .ok (.iload_n 1, 1) := by decide +kernel
theorem dX1_countMould_16 : decode cX1_countMould 16 = .ok (.iaload, 1) := by decide +kernel
theorem dX1_countMould_17 : decode cX1_countMould 17 = .ok (.iconst 5, 1) := by decide +kernel
theorem dX1_countMould_18 : decode cX1_countMould 18 = .ok (.if_icmp .lt 26, 3) := by decide +kernel
theorem dX1_countMould_21 : decode cX1_countMould 21 = .ok (.aload_n 0, 1) := by decide +kernel
theorem dX1_countMould_22 : decode cX1_countMould 22 = .ok (.getfield 35, 3) := by decide +kernel
theorem dX1_countMould_25 : decode cX1_countMould 25 = .ok (.iload_n 1, 1) := by decide +kernel
theorem dX1_countMould_26 : decode cX1_countMould 26 = .ok (.aload_n 0, 1) := by decide +kernel
theorem dX1_countMould_27 : decode cX1_countMould 27 = .ok (.getfield 35, 3) := by decide +kernel
theorem dX1_countMould_30 : decode cX1_countMould 30 = .ok (.iload_n 1, 1) := by decide +kernel
theorem dX1_countMould_31 : decode cX1_countMould 31 = .ok (.iaload, 1) := by decide +kernel
theorem dX1_countMould_32 : decode cX1_countMould 32 = .ok (.iconst 1, 1) := by decide +kernel
theorem dX1_countMould_33 : decode cX1_countMould 33 = .ok (.iadd, 1) := by decide +kernel
theorem dX1_countMould_34 : decode cX1_countMould 34 = .ok (.sipush 1000, 3) := by decide +kernel
theorem dX1_countMould_37 : decode cX1_countMould 37 = .ok (.invokestatic 98, 3) := by decide +kernel
theorem dX1_countMould_40 : decode cX1_countMould 40 = .ok (.iastore, 1) := by decide +kernel
theorem dX1_countMould_41 : decode cX1_countMould 41 = .ok (.goto 21, 3) := by decide +kernel
theorem dX1_countMould_44 : decode cX1_countMould 44 = .ok (.aload_n 0, 1) := by decide +kernel
theorem dX1_countMould_45 : decode cX1_countMould 45 = .ok (.getfield 35, 3) := by decide +kernel
theorem dX1_countMould_48 : decode cX1_countMould 48 = .ok (.iload_n 1, 1) := by decide +kernel
theorem dX1_countMould_49 : decode cX1_countMould 49 = .ok (.aload_n 0, 1) := by decide +kernel
theorem dX1_countMould_50 : decode cX1_countMould 50 = .ok (.getfield 35, 3) := by decide +kernel
theorem dX1_countMould_53 : decode cX1_countMould 53 = .ok (.iload_n 1, 1) := by decide +kernel
theorem dX1_countMould_54 : decode cX1_countMould 54 = .ok (.iaload, 1) := by decide +kernel
theorem dX1_countMould_55 : decode cX1_countMould 55 = .ok (.iconst 1, 1) := by decide +kernel
theorem dX1_countMould_56 : decode cX1_countMould 56 = .ok (.isub, 1) := by decide +kernel
theorem dX1_countMould_57 : decode cX1_countMould 57 = .ok (.iconst 0, 1) := by decide +kernel
theorem dX1_countMould_58 : decode cX1_countMould 58 = .ok (.invokestatic 129, 3) := by decide +kernel
theorem dX1_countMould_61 : decode cX1_countMould 61 = .ok (.iastore, 1) := by decide +kernel
theorem dX1_countMould_62 : decode cX1_countMould 62 = .ok (.return_, 1) := by decide +kernel
theorem dX1_resistOf_0 : decode cX1_resistOf 0 = .ok (.iconst 0, 1) := by decide +kernel
theorem dX1_resistOf_1 : decode cX1_resistOf 1 = .ok (.istore_n 3, 1) := by decide +kernel
theorem dX1_resistOf_2 : decode cX1_resistOf 2 = .ok (.iconst 0, 1) := by decide +kernel
theorem dX1_resistOf_3 : decode cX1_resistOf 3 = .ok (.istore 4, 2) := by decide +kernel
theorem dX1_resistOf_5 : decode cX1_resistOf 5 = .ok (.iload 4, 2) := by decide +kernel
theorem dX1_resistOf_7 : decode cX1_resistOf 7 = .ok (.aload_n 0, 1) := by decide +kernel
theorem dX1_resistOf_8 : decode cX1_resistOf 8 = .ok (.getfield 47, 3) := by decide +kernel
theorem dX1_resistOf_11 : decode cX1_resistOf 11 = .ok (.if_icmp .ge 25, 3) := by decide +kernel
theorem dX1_resistOf_14 : decode cX1_resistOf 14 = .ok (.iload_n 2, 1) := by decide +kernel
theorem dX1_resistOf_15 : decode cX1_resistOf 15 = .ok (.iconst 1, 1) := by decide +kernel
theorem dX1_resistOf_16 : decode cX1_resistOf 16 = .ok (.iload 4, 2) := by decide +kernel
theorem dX1_resistOf_18 : decode cX1_resistOf 18 = .ok (.ishl, 1) := by decide +kernel
theorem dX1_resistOf_19 : decode cX1_resistOf 19 = .ok (.iand, 1) := by decide +kernel
theorem dX1_resistOf_20 : decode cX1_resistOf 20 = .ok (.ifCond .eq 10, 3) := by decide +kernel
theorem dX1_resistOf_23 : decode cX1_resistOf 23 = .ok (.iload_n 3, 1) := by decide +kernel
theorem dX1_resistOf_24 : decode cX1_resistOf 24 = .ok (.aload_n 1, 1) := by decide +kernel
theorem dX1_resistOf_25 : decode cX1_resistOf 25 = .ok (.iload 4, 2) := by decide +kernel
theorem dX1_resistOf_27 : decode cX1_resistOf 27 = .ok (.iaload, 1) := by decide +kernel
theorem dX1_resistOf_28 : decode cX1_resistOf 28 = .ok (.iadd, 1) := by decide +kernel
theorem dX1_resistOf_29 : decode cX1_resistOf 29 = .ok (.istore_n 3, 1) := by decide +kernel
theorem dX1_resistOf_30 : decode cX1_resistOf 30 = .ok (.iinc 4 1, 3) := by decide +kernel
theorem dX1_resistOf_33 : decode cX1_resistOf 33 = .ok (.goto (-28), 3) := by decide +kernel
theorem dX1_resistOf_36 : decode cX1_resistOf 36 = .ok (.iload_n 3, 1) := by decide +kernel
theorem dX1_resistOf_37 : decode cX1_resistOf 37 = .ok (.ireturn, 1) := by decide +kernel
theorem dJ9_max_7cf53_0 : decode cJ9_max_7cf53 0 = .ok (.iload_n 0, 1) := by decide +kernel
theorem dJ9_max_7cf53_1 : decode cJ9_max_7cf53 1 = .ok (.iload_n 1, 1) := by decide +kernel
theorem dJ9_max_7cf53_2 : decode cJ9_max_7cf53 2 = .ok (.if_icmp .lt 7, 3) := by decide +kernel
theorem dJ9_max_7cf53_5 : decode cJ9_max_7cf53 5 = .ok (.iload_n 0, 1) := by decide +kernel
theorem dJ9_max_7cf53_6 : decode cJ9_max_7cf53 6 = .ok (.goto 4, 3) := by decide +kernel
theorem dJ9_max_7cf53_9 : decode cJ9_max_7cf53 9 = .ok (.iload_n 1, 1) := by decide +kernel
theorem dJ9_max_7cf53_10 : decode cJ9_max_7cf53 10 = .ok (.ireturn, 1) := by decide +kernel
theorem dJ9_min_7cf53_0 : decode cJ9_min_7cf53 0 = .ok (.iload_n 0, 1) := by decide +kernel
theorem dJ9_min_7cf53_1 : decode cJ9_min_7cf53 1 = .ok (.iload_n 1, 1) := by decide +kernel
theorem dJ9_min_7cf53_2 : decode cJ9_min_7cf53 2 = .ok (.if_icmp .gt 7, 3) := by decide +kernel
theorem dJ9_min_7cf53_5 : decode cJ9_min_7cf53 5 = .ok (.iload_n 0, 1) := by decide +kernel
theorem dJ9_min_7cf53_6 : decode cJ9_min_7cf53 6 = .ok (.goto 4, 3) := by decide +kernel
theorem dJ9_min_7cf53_9 : decode cJ9_min_7cf53 9 = .ok (.iload_n 1, 1) := by decide +kernel
theorem dJ9_min_7cf53_10 : decode cJ9_min_7cf53 10 = .ok (.ireturn, 1) := by decide +kernel
