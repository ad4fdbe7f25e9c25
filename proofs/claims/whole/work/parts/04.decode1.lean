theorem dX0_init_0 : decode cX0_init 0 = .ok (.aload_n 0, 1) := by decide +kernel
theorem dX0_init_1 : decode cX0_init 1 = .ok (.invokespecial 1, 3) := by decide +kernel
theorem dX0_init_4 : decode cX0_init 4 = .ok (.aload_n 0, 1) := by decide +kernel
theorem dX0_init_5 : decode cX0_init 5 = .ok (.bipush 16, 2) := by decide +kernel
theorem dX0_init_7 : decode cX0_init 7 = .ok (.newarray .long, 2) := by decide +kernel
theorem dX0_init_9 : decode cX0_init 9 = .ok (.putfield 9, 3) := by decide +kernel
theorem dX0_init_12 : decode cX0_init 12 = .ok (.return_, 1) := by decide +kernel
theorem dX0_set_0 : decode cX0_set 0 = .ok (.iload_n 1, 1) := by decide +kernel
theorem dX0_set_1 : decode cX0_set 1 = .ok (.invokestatic 13, 3) := by decide +kernel
theorem dX0_set_4 : decode cX0_set 4 = .ok (.lload_n 2, 1) := by decide +kernel
theorem dX0_set_5 : decode cX0_set 5 = .ok (.ldc2_w 17, 3) := by decide +kernel
theorem dX0_set_8 : decode cX0_set 8 = .ok (.lcmp, 1) := by decide +kernel
theorem dX0_set_9 : decode cX0_set 9 = .ok (.ifCond .gt 11, 3) := by decide +kernel
theorem dX0_set_12 : decode cX0_set 12 = .ok (.lload_n 2, 1) := by decide +kernel
theorem dX0_set_13 : decode cX0_set 13 = .ok (.ldc2_w 19, 3) := by decide +kernel
theorem dX0_set_16 : decode cX0_set 16 = .ok (.lcmp, 1) := by decide +kernel
theorem dX0_set_17 : decode cX0_set 17 = .ok (.ifCond .ge 13, 3) := by decide +kernel
theorem dX0_set_20 : decode cX0_set 20 = .ok (.new 21, 3) := by decide +kernel
theorem dX0_set_23 : decode cX0_set 23 = .ok (.dup, 1) := by decide +kernel
theorem dX0_set_24 : decode cX0_set 24 = .ok (.ldc 23, 2) := by decide +kernel
theorem dX0_set_26 : decode cX0_set 26 = .ok (.invokespecial 25, 3) := by decide +kernel
theorem dX0_set_29 : decode cX0_set 29 = .ok (.athrow, 1) := by decide +kernel
theorem dX0_set_30 : decode cX0_set 30 = .ok (.iload 4, 2) := by decide +kernel
theorem dX0_set_32 : decode cX0_set 32 = .ok (.sipush (-1200), 3) := by decide +kernel
theorem dX0_set_35 : decode cX0_set 35 = .ok (.if_icmp .lt 11, 3) := by decide +kernel
theorem dX0_set_38 : decode cX0_set 38 = .ok (.iload 4, 2) := by decide +kernel
theorem dX0_set_40 : decode cX0_set 40 = .ok (.sipush 1100, 3) := by decide +kernel
theorem dX0_set_43 : decode cX0_set 43 = .ok (.if_icmp .le 13, 3) := by decide +kernel
theorem dX0_set_46 : decode cX0_set 46 = .ok (.new 21, 3) := by decide +kernel
theorem dX0_set_49 : decode cX0_set 49 = .ok (.dup, 1) := by decide +kernel
theorem dX0_set_50 : decode cX0_set 50 = .ok (.ldc 28, 2) := by decide +kernel
theorem dX0_set_52 : decode cX0_set 52 = .ok (.invokespecial 25, 3) := by decide +kernel
theorem dX0_set_55 : decode cX0_set 55 = .ok (.athrow, 1) := by decide +kernel
theorem dX0_set_56 : decode cX0_set 56 = .ok (.aload_n 0, 1) := by decide +kernel
theorem dX0_set_57 : decode cX0_set 57 = .ok (.iload_n 1, 1) := by decide +kernel
theorem dX0_set_58 : decode cX0_set 58 = .ok (.lload_n 2, 1) := by decide +kernel
theorem dX0_set_59 : decode cX0_set 59 = .ok (.invokestatic 30, 3) := by decide +kernel
theorem dX0_set_62 : decode cX0_set 62 = .ok (.iload 4, 2) := by decide +kernel
theorem dX0_set_64 : decode cX0_set 64 = .ok (.invokestatic 36, 3) := by decide +kernel
theorem dX0_set_67 : decode cX0_set 67 = .ok (.lload_n 2, 1) := by decide +kernel
theorem dX0_set_68 : decode cX0_set 68 = .ok (.invokestatic 40, 3) := by decide +kernel
theorem dX0_set_71 : decode cX0_set 71 = .ok (.invokevirtual 44, 3) := by decide +kernel
theorem dX0_set_74 : decode cX0_set 74 = .ok (.ireturn, 1) := by decide +kernel
theorem dX0_combine_0 : decode cX0_combine 0 = .ok (.iload_n 1, 1) := by decide +kernel
theorem dX0_combine_1 : decode cX0_combine 1 = .ok (.invokestatic 13, 3) := by decide +kernel
theorem dX0_combine_4 : decode cX0_combine 4 = .ok (.iload_n 3, 1) := by decide +kernel
theorem dX0_combine_5 : decode cX0_combine 5 = .ok (.invokestatic 13, 3) := by decide +kernel
theorem dX0_combine_8 : decode cX0_combine 8 = .ok (.iload 4, 2) := by decide +kernel
theorem dX0_combine_10 : decode cX0_combine 10 = .ok (.invokestatic 13, 3) := by decide +kernel
theorem dX0_combine_13 : decode cX0_combine 13 = .ok (.iload_n 2, 1) := by decide +kernel
theorem dX0_combine_14 : decode cX0_combine 14 = .ok (.invokestatic 48, 3) := by decide +kernel
theorem dX0_combine_17 : decode cX0_combine 17 = .ok (.aload_n 0, 1) := by decide +kernel
theorem dX0_combine_18 : decode cX0_combine 18 = .ok (.iload_n 1, 1) := by decide +kernel
theorem dX0_combine_19 : decode cX0_combine 19 = .ok (.iload_n 2, 1) := by decide +kernel
theorem dX0_combine_20 : decode cX0_combine 20 = .ok (.aload_n 0, 1) := by decide +kernel
theorem dX0_combine_21 : decode cX0_combine 21 = .ok (.getfield 9, 3) := by decide +kernel
theorem dX0_combine_24 : decode cX0_combine 24 = .ok (.iload_n 3, 1) := by decide +kernel
theorem dX0_combine_25 : decode cX0_combine 25 = .ok (.laload, 1) := by decide +kernel
theorem dX0_combine_26 : decode cX0_combine 26 = .ok (.aload_n 0, 1) := by decide +kernel
theorem dX0_combine_27 : decode cX0_combine 27 = .ok (.getfield 9, 3) := by decide +kernel
theorem dX0_combine_30 : decode cX0_combine 30 = .ok (.iload 4, 2) := by decide +kernel
theorem dX0_combine_32 : decode cX0_combine 32 = .ok (.laload, 1) := by decide +kernel
theorem dX0_combine_33 : decode cX0_combine 33 = .ok (.invokevirtual 51, 3) := by decide +kernel
theorem dX0_combine_36 : decode cX0_combine 36 = .ok (.ireturn, 1) := by decide +kernel
theorem dX0_change_0 : decode cX0_change 0 = .ok (.iload_n 1, 1) := by decide +kernel
theorem dX0_change_1 : decode cX0_change 1 = .ok (.invokestatic 13, 3) := by decide +kernel
theorem dX0_change_4 : decode cX0_change 4 = .ok (.iload_n 3, 1) := by decide +kernel
theorem dX0_change_5 : decode cX0_change 5 = .ok (.invokestatic 13, 3) := by decide +kernel
theorem dX0_change_8 : decode cX0_change 8 = .ok (.iload_n 2, 1) := by decide +kernel
theorem dX0_change_9 : decode cX0_change 9 = .ok (.invokestatic 48, 3) := by decide +kernel
theorem dX0_change_12 : decode cX0_change 12 = .ok (.aload_n 0, 1) := by decide +kernel
theorem dX0_change_13 : decode cX0_change 13 = .ok (.iload_n 1, 1) := by decide +kernel
theorem dX0_change_14 : decode cX0_change 14 = .ok (.iload_n 2, 1) := by decide +kernel
theorem dX0_change_15 : decode cX0_change 15 = .ok (.aload_n 0, 1) := by decide +kernel
theorem dX0_change_16 : decode cX0_change 16 = .ok (.getfield 9, 3) := by decide +kernel
theorem dX0_change_19 : decode cX0_change 19 = .ok (.iload_n 3, 1) := by decide +kernel
theorem dX0_change_20 : decode cX0_change 20 = .ok (.laload, 1) := by decide +kernel
theorem dX0_change_21 : decode cX0_change 21 = .ok (.invokevirtual 55, 3) := by decide +kernel
theorem dX0_change_24 : decode cX0_change 24 = .ok (.ireturn, 1) := by decide +kernel
theorem dX0_power_0 : decode cX0_power 0 = .ok (.iload_n 1, 1) := by decide +kernel
theorem dX0_power_1 : decode cX0_power 1 = .ok (.invokestatic 13, 3) := by decide +kernel
theorem dX0_power_4 : decode cX0_power 4 = .ok (.iload_n 2, 1) := by decide +kernel
theorem dX0_power_5 : decode cX0_power 5 = .ok (.invokestatic 13, 3) := by decide +kernel
theorem dX0_power_8 : decode cX0_power 8 = .ok (.iload_n 3, 1) := by decide +kernel
theorem dX0_power_9 : decode cX0_power 9 = .ok (.sipush (-1024), 3) := by decide +kernel
theorem dX0_power_12 : decode cX0_power 12 = .ok (.if_icmp .lt 10, 3) := by decide +kernel
theorem dX0_power_15 : decode cX0_power 15 = .ok (.iload_n 3, 1) := by decide +kernel
theorem dX0_power_16 : decode cX0_power 16 = .ok (.sipush 1024, 3) := by decide +kernel
theorem dX0_power_19 : decode cX0_power 19 = .ok (.if_icmp .le 13, 3) := by decide +kernel
theorem dX0_power_22 : decode cX0_power 22 = .ok (.new 21, 3) := by decide +kernel
theorem dX0_power_25 : decode cX0_power 25 = .ok (.dup, 1) := by decide +kernel
theorem dX0_power_26 : decode cX0_power 26 = .ok (.ldc 59, 2) := by decide +kernel
theorem dX0_power_28 : decode cX0_power 28 = .ok (.invokespecial 25, 3) := by decide +kernel
theorem dX0_power_31 : decode cX0_power 31 = .ok (.athrow, 1) := by decide +kernel
theorem dX0_power_32 : decode cX0_power 32 = .ok (.aload_n 0, 1) := by decide +kernel
theorem dX0_power_33 : decode cX0_power 33 = .ok (.getfield 9, 3) := by decide +kernel
theorem dX0_power_36 : decode cX0_power 36 = .ok (.iload_n 2, 1) := by decide +kernel
theorem dX0_power_37 : decode cX0_power 37 = .ok (.laload, 1) := by decide +kernel
theorem dX0_power_38 : decode cX0_power 38 = .ok (.iload_n 3, 1) := by decide +kernel
theorem dX0_power_39 : decode cX0_power 39 = .ok (.invokestatic 61, 3) := by decide +kernel
theorem dX0_power_42 : decode cX0_power 42 = .ok (.invokestatic 64, 3) := by decide +kernel
theorem dX0_power_45 : decode cX0_power 45 = .ok (.lstore 4, 2) := by decide +kernel
theorem dX0_power_47 : decode cX0_power 47 = .ok (.iload_n 3, 1) := by decide +kernel
theorem dX0_power_48 : decode cX0_power 48 = .ok (.ifCond .ge 11, 3) := by decide +kernel
theorem dX0_power_51 : decode cX0_power 51 = .ok (.lload 4, 2) := by decide +kernel
theorem dX0_power_53 : decode cX0_power 53 = .ok (.invokestatic 67, 3) := by decide +kernel
theorem dX0_power_56 : decode cX0_power 56 = .ok (.ifCond .eq 11, 3) := by decide +kernel
theorem dX0_power_59 : decode cX0_power 59 = .ok (.aload_n 0, 1) := by decide +kernel
theorem dX0_power_60 : decode cX0_power 60 = .ok (.iload_n 1, 1) := by decide +kernel
theorem dX0_power_61 : decode cX0_power 61 = .ok (.lload 4, 2) := by decide +kernel
theorem dX0_power_63 : decode cX0_power 63 = .ok (.invokevirtual 44, 3) := by decide +kernel
theorem dX0_power_66 : decode cX0_power 66 = .ok (.ireturn, 1) := by decide +kernel
theorem dX0_power_67 : decode cX0_power 67 = .ok (.lload 4, 2) := by decide +kernel
theorem dX0_power_69 : decode cX0_power 69 = .ok (.lconst 0, 1) := by decide +kernel
theorem dX0_power_70 : decode cX0_power 70 = .ok (.lcmp, 1) := by decide +kernel
theorem dX0_power_71 : decode cX0_power 71 = .ok (.ifCond .ne 8, 3) := by decide +kernel
theorem dX0_power_74 : decode cX0_power 74 = .ok (.bipush (-2), 2) := by decide +kernel
theorem dX0_power_76 : decode cX0_power 76 = .ok (.goto 16, 3) := by decide +kernel
theorem dX0_power_79 : decode cX0_power 79 = .ok (.aload_n 0, 1) := by decide +kernel
theorem dX0_power_80 : decode cX0_power 80 = .ok (.iload_n 1, 1) := by decide +kernel
theorem dX0_power_81 : decode cX0_power 81 = .ok (.ldc2_w 71, 3) := by decide +kernel
theorem dX0_power_84 : decode cX0_power 84 = .ok (.lload 4, 2) := by decide +kernel
theorem dX0_power_86 : decode cX0_power 86 = .ok (.invokestatic 73, 3) := by decide +kernel
theorem dX0_power_89 : decode cX0_power 89 = .ok (.invokevirtual 44, 3) := by decide +kernel
theorem dX0_power_92 : decode cX0_power 92 = .ok (.ireturn, 1) := by decide +kernel
theorem dX0_order_0 : decode cX0_order 0 = .ok (.iload_n 1, 1) := by decide +kernel
theorem dX0_order_1 : decode cX0_order 1 = .ok (.invokestatic 13, 3) := by decide +kernel
theorem dX0_order_4 : decode cX0_order 4 = .ok (.iload_n 2, 1) := by decide +kernel
theorem dX0_order_5 : decode cX0_order 5 = .ok (.invokestatic 13, 3) := by decide +kernel
theorem dX0_order_8 : decode cX0_order 8 = .ok (.aload_n 0, 1) := by decide +kernel
theorem dX0_order_9 : decode cX0_order 9 = .ok (.getfield 9, 3) := by decide +kernel
theorem dX0_order_12 : decode cX0_order 12 = .ok (.iload_n 1, 1) := by decide +kernel
theorem dX0_order_13 : decode cX0_order 13 = .ok (.laload, 1) := by decide +kernel
theorem dX0_order_14 : decode cX0_order 14 = .ok (.aload_n 0, 1) := by decide +kernel
theorem dX0_order_15 : decode cX0_order 15 = .ok (.getfield 9, 3) := by decide +kernel
theorem dX0_order_18 : decode cX0_order 18 = .ok (.iload_n 2, 1) := by decide +kernel
theorem dX0_order_19 : decode cX0_order 19 = .ok (.laload, 1) := by decide +kernel
theorem dX0_order_20 : decode cX0_order 20 = .ok (.lcmp, 1) := by decide +kernel
theorem dX0_order_21 : decode cX0_order 21 = .ok (.ifCond .ne 5, 3) := by decide +kernel
theorem dX0_order_24 : decode cX0_order 24 = .ok (.iconst 0, 1) := by decide +kernel
theorem dX0_order_25 : decode cX0_order 25 = .ok (.ireturn, 1) := by decide +kernel
theorem dX0_order_26 : decode cX0_order 26 = .ok (.aload_n 0, 1) := by decide +kernel
theorem dX0_order_27 : decode cX0_order 27 = .ok (.getfield 9, 3) := by decide +kernel
theorem dX0_order_30 : decode cX0_order 30 = .ok (.iload_n 1, 1) := by decide +kernel
theorem dX0_order_31 : decode cX0_order 31 = .ok (.laload, 1) := by decide +kernel
theorem dX0_order_32 : decode cX0_order 32 = .ok (.aload_n 0, 1) := by decide +kernel
theorem dX0_order_33 : decode cX0_order 33 = .ok (.getfield 9, 3) := by decide +kernel
theorem dX0_order_36 : decode cX0_order 36 = .ok (.iload_n 2, 1) := by decide +kernel
theorem dX0_order_37 : decode cX0_order 37 = .ok (.laload, 1) := by decide +kernel
theorem dX0_order_38 : decode cX0_order 38 = .ok (.lcmp, 1) := by decide +kernel
theorem dX0_order_39 : decode cX0_order 39 = .ok (.ifCond .ge 7, 3) := by decide +kernel
theorem dX0_order_42 : decode cX0_order 42 = .ok (.iconst (-1), 1) := by decide +kernel
theorem dX0_order_43 : decode cX0_order 43 = .ok (.goto 4, 3) := by decide +kernel
theorem dX0_order_46 : decode cX0_order 46 = .ok (.iconst 1, 1) := by decide +kernel
theorem dX0_order_47 : decode cX0_order 47 = .ok (.ireturn, 1) := by decide +kernel
theorem dX0_digits_0 : decode cX0_digits 0 = .ok (.iload_n 1, 1) := by decide +kernel
theorem dX0_digits_1 : decode cX0_digits 1 = .ok (.invokestatic 13, 3) := by decide +kernel
theorem dX0_digits_4 : decode cX0_digits 4 = .ok (.aload_n 0, 1) := by decide +kernel
theorem dX0_digits_5 : decode cX0_digits 5 = .ok (.getfield 9, 3) := by decide +kernel
theorem dX0_digits_8 : decode cX0_digits 8 = .ok (.iload_n 1, 1) := by decide +kernel
theorem dX0_digits_9 : decode cX0_digits 9 = .ok (.laload, 1) := by decide +kernel
theorem dX0_digits_10 : decode cX0_digits 10 = .ok (.invokestatic 76, 3) := by decide +kernel
theorem dX0_digits_13 : decode cX0_digits 13 = .ok (.aload_n 0, 1) := by decide +kernel
theorem dX0_digits_14 : decode cX0_digits 14 = .ok (.getfield 9, 3) := by decide +kernel
theorem dX0_digits_17 : decode cX0_digits 17 = .ok (.iload_n 1, 1) := by decide +kernel
theorem dX0_digits_18 : decode cX0_digits 18 = .ok (.laload, 1) := by decide +kernel
theorem dX0_digits_19 : decode cX0_digits 19 = .ok (.invokestatic 40, 3) := by decide +kernel
theorem dX0_digits_22 : decode cX0_digits 22 = .ok (.lreturn, 1) := by decide +kernel
theorem dX0_exponent_0 : decode cX0_exponent 0 = .ok (.iload_n 1, 1) := by decide +kernel
theorem dX0_exponent_1 : decode cX0_exponent 1 = .ok (.invokestatic 13, 3) := by decide +kernel
theorem dX0_exponent_4 : decode cX0_exponent 4 = .ok (.aload_n 0, 1) := by decide +kernel
theorem dX0_exponent_5 : decode cX0_exponent 5 = .ok (.getfield 9, 3) := by decide +kernel
theorem dX0_exponent_8 : decode cX0_exponent 8 = .ok (.iload_n 1, 1) := by decide +kernel
theorem dX0_exponent_9 : decode cX0_exponent 9 = .ok (.laload, 1) := by decide +kernel
theorem dX0_exponent_10 : decode cX0_exponent 10 = .ok (.invokestatic 79, 3) := by decide +kernel
theorem dX0_exponent_13 : decode cX0_exponent 13 = .ok (.ireturn, 1) := by decide +kernel
theorem dX0_value_0 : decode cX0_value 0 = .ok (.iload_n 1, 1) := by decide +kernel
theorem dX0_value_1 : decode cX0_value 1 = .ok (.invokestatic 13, 3) := by decide +kernel
theorem dX0_value_4 : decode cX0_value 4 = .ok (.aload_n 0, 1) := by decide +kernel
theorem dX0_value_5 : decode cX0_value 5 = .ok (.getfield 9, 3) := by decide +kernel
theorem dX0_value_8 : decode cX0_value 8 = .ok (.iload_n 1, 1) := by decide +kernel
theorem dX0_value_9 : decode cX0_value 9 = .ok (.laload, 1) := by decide +kernel
theorem dX0_value_10 : decode cX0_value 10 = .ok (.invokestatic 76, 3) := by decide +kernel
theorem dX0_value_13 : decode cX0_value 13 = .ok (.aload_n 0, 1) := by decide +kernel
theorem dX0_value_14 : decode cX0_value 14 = .ok (.getfield 9, 3) := by decide +kernel
theorem dX0_value_17 : decode cX0_value 17 = .ok (.iload_n 1, 1) := by decide +kernel
theorem dX0_value_18 : decode cX0_value 18 = .ok (.laload, 1) := by decide +kernel
theorem dX0_value_19 : decode cX0_value 19 = .ok (.invokestatic 40, 3) := by decide +kernel
theorem dX0_value_22 : decode cX0_value 22 = .ok (.lstore_n 2, 1) := by decide +kernel
theorem dX0_value_23 : decode cX0_value 23 = .ok (.lload_n 2, 1) := by decide +kernel
theorem dX0_value_24 : decode cX0_value 24 = .ok (.l2d, 1) := by decide +kernel
theorem dX0_value_25 : decode cX0_value 25 = .ok (.aload_n 0, 1) := by decide +kernel
theorem dX0_value_26 : decode cX0_value 26 = .ok (.getfield 9, 3) := by decide +kernel
theorem dX0_value_29 : decode cX0_value 29 = .ok (.iload_n 1, 1) := by decide +kernel
theorem dX0_value_30 : decode cX0_value 30 = .ok (.laload, 1) := by decide +kernel
theorem dX0_value_31 : decode cX0_value 31 = .ok (.invokestatic 79, 3) := by decide +kernel
theorem dX0_value_34 : decode cX0_value 34 = .ok (.invokestatic 83, 3) := by decide +kernel
theorem dX0_value_37 : decode cX0_value 37 = .ok (.dmul, 1) := by decide +kernel
theorem dX0_value_38 : decode cX0_value 38 = .ok (.dreturn, 1) := by decide +kernel
theorem dX0_whole_0 : decode cX0_whole 0 = .ok (.iload_n 1, 1) := by decide +kernel
theorem dX0_whole_1 : decode cX0_whole 1 = .ok (.invokestatic 13, 3) := by decide +kernel
theorem dX0_whole_4 : decode cX0_whole 4 = .ok (.aload_n 0, 1) := by decide +kernel
theorem dX0_whole_5 : decode cX0_whole 5 = .ok (.getfield 9, 3) := by decide +kernel
theorem dX0_whole_8 : decode cX0_whole 8 = .ok (.iload_n 1, 1) := by decide +kernel
theorem dX0_whole_9 : decode cX0_whole 9 = .ok (.laload, 1) := by decide +kernel
theorem dX0_whole_10 : decode cX0_whole 10 = .ok (.lstore_n 2, 1) := by decide +kernel
theorem dX0_whole_11 : decode cX0_whole 11 = .ok (.lload_n 2, 1) := by decide +kernel
theorem dX0_whole_12 : decode cX0_whole 12 = .ok (.ldc2_w 87, 3) := by decide +kernel
theorem dX0_whole_15 : decode cX0_whole 15 = .ok (.lcmp, 1) := by decide +kernel
theorem dX0_whole_16 : decode cX0_whole 16 = .ok (.ifCond .ge 11, 3) := by decide +kernel
theorem dX0_whole_19 : decode cX0_whole 19 = .ok (.lload_n 2, 1) := by decide +kernel
theorem dX0_whole_20 : decode cX0_whole 20 = .ok (.ldc2_w 89, 3) := by decide +kernel
theorem dX0_whole_23 : decode cX0_whole 23 = .ok (.lcmp, 1) := by decide +kernel
theorem dX0_whole_24 : decode cX0_whole 24 = .ok (.ifCond .ge 13, 3) := by decide +kernel
theorem dX0_whole_27 : decode cX0_whole 27 = .ok (.new 91, 3) := by decide +kernel
theorem dX0_whole_30 : decode cX0_whole 30 = .ok (.dup, 1) := by decide +kernel
theorem dX0_whole_31 : decode cX0_whole 31 = .ok (.ldc 93, 2) := by decide +kernel
theorem dX0_whole_33 : decode cX0_whole 33 = .ok (.invokespecial 95, 3) := by decide +kernel
theorem dX0_whole_36 : decode cX0_whole 36 = .ok (.athrow, 1) := by decide +kernel
theorem dX0_whole_37 : decode cX0_whole 37 = .ok (.lload_n 2, 1) := by decide +kernel
theorem dX0_whole_38 : decode cX0_whole 38 = .ok (.invokestatic 76, 3) := by decide +kernel
theorem dX0_whole_41 : decode cX0_whole 41 = .ok (.lstore 4, 2) := by decide +kernel
theorem dX0_whole_43 : decode cX0_whole 43 = .ok (.lload_n 2, 1) := by decide +kernel
theorem dX0_whole_44 : decode cX0_whole 44 = .ok (.invokestatic 79, 3) := by decide +kernel
theorem dX0_whole_47 : decode cX0_whole 47 = .ok (.istore 6, 2) := by decide +kernel
theorem dX0_whole_49 : decode cX0_whole 49 = .ok (.iload 6, 2) := by decide +kernel
theorem dX0_whole_51 : decode cX0_whole 51 = .ok (.ifCond .lt 13, 3) := by decide +kernel
theorem dX0_whole_54 : decode cX0_whole 54 = .ok (.lload 4, 2) := by decide +kernel
theorem dX0_whole_56 : decode cX0_whole 56 = .ok (.iload 6, 2) := by decide +kernel
theorem dX0_whole_58 : decode cX0_whole 58 = .ok (.lshl, 1) := by decide +kernel
theorem dX0_whole_59 : decode cX0_whole 59 = .ok (.lload_n 2, 1) := by decide +kernel
theorem dX0_whole_60 : decode cX0_whole 60 = .ok (.invokestatic 40, 3) := by decide +kernel
theorem dX0_whole_63 : decode cX0_whole 63 = .ok (.lreturn, 1) := by decide +kernel
theorem dX0_whole_64 : decode cX0_whole 64 = .ok (.iload 6, 2) := by decide +kernel
theorem dX0_whole_66 : decode cX0_whole 66 = .ok (.ineg, 1) := by decide +kernel
theorem dX0_whole_67 : decode cX0_whole 67 = .ok (.bipush 62, 2) := by decide +kernel
theorem dX0_whole_69 : decode cX0_whole 69 = .ok (.invokestatic 96, 3) := by decide +kernel
theorem dX0_whole_72 : decode cX0_whole 72 = .ok (.istore 7, 2) := by decide +kernel
theorem dX0_whole_74 : decode cX0_whole 74 = .ok (.lload 4, 2) := by decide +kernel
theorem dX0_whole_76 : decode cX0_whole 76 = .ok (.iload 7, 2) := by decide +kernel
theorem dX0_whole_78 : decode cX0_whole 78 = .ok (.invokestatic 100, 3) := by decide +kernel
theorem dX0_whole_81 : decode cX0_whole 81 = .ok (.lconst 0, 1) := by decide +kernel
theorem dX0_whole_82 : decode cX0_whole 82 = .ok (.lcmp, 1) := by decide +kernel
theorem dX0_whole_83 : decode cX0_whole 83 = .ok (.ifCond .eq 13, 3) := by decide +kernel
theorem dX0_whole_86 : decode cX0_whole 86 = .ok (.new 91, 3) := by decide +kernel
theorem dX0_whole_89 : decode cX0_whole 89 = .ok (.dup, 1) := by decide +kernel
theorem dX0_whole_90 : decode cX0_whole 90 = .ok (.ldc 103, 2) := by decide +kernel
theorem dX0_whole_92 : decode cX0_whole 92 = .ok (.invokespecial 95, 3) := by decide +kernel
theorem dX0_whole_95 : decode cX0_whole 95 = .ok (.athrow, 1) := by decide +kernel
theorem dX0_whole_96 : decode cX0_whole 96 = .ok (.lload 4, 2) := by decide +kernel
theorem dX0_whole_98 : decode cX0_whole 98 = .ok (.iload 7, 2) := by decide +kernel
theorem dX0_whole_100 : decode cX0_whole 100 = .ok (.lushr, 1) := by decide +kernel
theorem dX0_whole_101 : decode cX0_whole 101 = .ok (.lload_n 2, 1) := by decide +kernel
theorem dX0_whole_102 : decode cX0_whole 102 = .ok (.invokestatic 40, 3) := by decide +kernel
theorem dX0_whole_105 : decode cX0_whole 105 = .ok (.lreturn, 1) := by decide +kernel
theorem dX0_requireRegister_0 : decode cX0_requireRegister 0 = .ok (.iload_n 0, 1) := by decide +kernel
theorem dX0_requireRegister_1 : decode cX0_requireRegister 1 = .ok (.ifCond .lt 9, 3) := by decide +kernel
theorem dX0_requireRegister_4 : decode cX0_requireRegister 4 = .ok (.iload_n 0, 1) := by decide +kernel
theorem dX0_requireRegister_5 : decode cX0_requireRegister 5 = .ok (.bipush 16, 2) := by decide +kernel
theorem dX0_requireRegister_7 : decode cX0_requireRegister 7 = .ok (.if_icmp .lt 13, 3) := by decide +kernel
theorem dX0_requireRegister_10 : decode cX0_requireRegister 10 = .ok (.new 21, 3) := by decide +kernel
theorem dX0_requireRegister_13 : decode cX0_requireRegister 13 = .ok (.dup, 1) := by decide +kernel
theorem dX0_requireRegister_14 : decode cX0_requireRegister 14 = .ok (.ldc 105, 2) := by decide +kernel
theorem dX0_requireRegister_16 : decode cX0_requireRegister 16 = .ok (.invokespecial 25, 3) := by decide +kernel
theorem dX0_requireRegister_19 : decode cX0_requireRegister 19 = .ok (.athrow, 1) := by decide +kernel
theorem dX0_requireRegister_20 : decode cX0_requireRegister 20 = .ok (.return_, 1) := by decide +kernel
theorem dX0_requireKind_0 : decode cX0_requireKind 0 = .ok (.iload_n 0, 1) := by decide +kernel
theorem dX0_requireKind_1 : decode cX0_requireKind 1 = .ok (.ifCond .lt 9, 3) := by decide +kernel
theorem dX0_requireKind_4 : decode cX0_requireKind 4 = .ok (.iload_n 0, 1) := by decide +kernel
theorem dX0_requireKind_5 : decode cX0_requireKind 5 = .ok (.bipush 8, 2) := by decide +kernel
theorem dX0_requireKind_7 : decode cX0_requireKind 7 = .ok (.if_icmp .le 13, 3) := by decide +kernel
theorem dX0_requireKind_10 : decode cX0_requireKind 10 = .ok (.new 21, 3) := by decide +kernel
theorem dX0_requireKind_13 : decode cX0_requireKind 13 = .ok (.dup, 1) := by decide +kernel
theorem dX0_requireKind_14 : decode cX0_requireKind 14 = .ok (.ldc 107, 2) := by decide +kernel
theorem dX0_requireKind_16 : decode cX0_requireKind 16 = .ok (.invokespecial 25, 3) := by decide +kernel
theorem dX0_requireKind_19 : decode cX0_requireKind 19 = .ok (.athrow, 1) := by decide +kernel
theorem dX0_requireKind_20 : decode cX0_requireKind 20 = .ok (.return_, 1) := by decide +kernel
theorem dX0_keep_0 : decode cX0_keep 0 = .ok (.lload_n 2, 1) := by decide +kernel
theorem dX0_keep_1 : decode cX0_keep 1 = .ok (.invokestatic 67, 3) := by decide +kernel
theorem dX0_keep_4 : decode cX0_keep 4 = .ok (.ifCond .eq 5, 3) := by decide +kernel
theorem dX0_keep_7 : decode cX0_keep 7 = .ok (.iconst (-1), 1) := by decide +kernel
theorem dX0_keep_8 : decode cX0_keep 8 = .ok (.ireturn, 1) := by decide +kernel
theorem dX0_keep_9 : decode cX0_keep 9 = .ok (.aload_n 0, 1) := by decide +kernel
theorem dX0_keep_10 : decode cX0_keep 10 = .ok (.getfield 9, 3) := by decide +kernel
theorem dX0_keep_13 : decode cX0_keep 13 = .ok (.iload_n 1, 1) := by decide +kernel
theorem dX0_keep_14 : decode cX0_keep 14 = .ok (.lload_n 2, 1) := by decide +kernel
theorem dX0_keep_15 : decode cX0_keep 15 = .ok (.lastore, 1) := by decide +kernel
theorem dX0_keep_16 : decode cX0_keep 16 = .ok (.iconst 0, 1) := by decide +kernel
theorem dX0_keep_17 : decode cX0_keep 17 = .ok (.ireturn, 1) := by decide +kernel
theorem dX0_combineRanks_0 : decode cX0_combineRanks 0 = .ok (.iload_n 2, 1) := by decide +kernel
theorem dX0_combineRanks_1 : decode cX0_combineRanks 1 = .ok (.tableswitch 172 0 8 #[51, 63, 76, 88, 112, 136, 148, 160, 172], 51) := by decide +kernel
theorem dX0_combineRanks_52 : decode cX0_combineRanks 52 = .ok (.aload_n 0, 1) := by decide +kernel
theorem dX0_combineRanks_53 : decode cX0_combineRanks 53 = .ok (.iload_n 1, 1) := by decide +kernel
theorem dX0_combineRanks_54 : decode cX0_combineRanks 54 = .ok (.lload_n 3, 1) := by decide +kernel
theorem dX0_combineRanks_55 : decode cX0_combineRanks 55 = .ok (.lload 5, 2) := by decide +kernel
theorem dX0_combineRanks_57 : decode cX0_combineRanks 57 = .ok (.invokestatic 109, 3) := by decide +kernel
theorem dX0_combineRanks_60 : decode cX0_combineRanks 60 = .ok (.invokevirtual 44, 3) := by decide +kernel
theorem dX0_combineRanks_63 : decode cX0_combineRanks 63 = .ok (.ireturn, 1) := by decide +kernel
theorem dX0_combineRanks_64 : decode cX0_combineRanks 64 = .ok (.aload_n 0, 1) := by decide +kernel
theorem dX0_combineRanks_65 : decode cX0_combineRanks 65 = .ok (.iload_n 1, 1) := by decide +kernel
theorem dX0_combineRanks_66 : decode cX0_combineRanks 66 = .ok (.lload_n 3, 1) := by decide +kernel
theorem dX0_combineRanks_67 : decode cX0_combineRanks 67 = .ok (.lload 5, 2) := by decide +kernel
theorem dX0_combineRanks_69 : decode cX0_combineRanks 69 = .ok (.lneg, 1) := by decide +kernel
theorem dX0_combineRanks_70 : decode cX0_combineRanks 70 = .ok (.invokestatic 109, 3) := by decide +kernel
theorem dX0_combineRanks_73 : decode cX0_combineRanks 73 = .ok (.invokevirtual 44, 3) := by decide +kernel
theorem dX0_combineRanks_76 : decode cX0_combineRanks 76 = .ok (.ireturn, 1) := by decide +kernel
theorem dX0_combineRanks_77 : decode cX0_combineRanks 77 = .ok (.aload_n 0, 1) := by decide +kernel
theorem dX0_combineRanks_78 : decode cX0_combineRanks 78 = .ok (.iload_n 1, 1) := by decide +kernel
theorem dX0_combineRanks_79 : decode cX0_combineRanks 79 = .ok (.lload_n 3, 1) := by decide +kernel
theorem dX0_combineRanks_80 : decode cX0_combineRanks 80 = .ok (.lload 5, 2) := by decide +kernel
theorem dX0_combineRanks_82 : decode cX0_combineRanks 82 = .ok (.invokestatic 112, 3) := by decide +kernel
theorem dX0_combineRanks_85 : decode cX0_combineRanks 85 = .ok (.invokevirtual 44, 3) := by decide +kernel
theorem dX0_combineRanks_88 : decode cX0_combineRanks 88 = .ok (.ireturn, 1) := by decide +kernel
theorem dX0_combineRanks_89 : decode cX0_combineRanks 89 = .ok (.lload 5, 2) := by decide +kernel
theorem dX0_combineRanks_91 : decode cX0_combineRanks 91 = .ok (.lconst 0, 1) := by decide +kernel
theorem dX0_combineRanks_92 : decode cX0_combineRanks 92 = .ok (.lcmp, 1) := by decide +kernel
theorem dX0_combineRanks_93 : decode cX0_combineRanks 93 = .ok (.ifCond .ne 8, 3) := by decide +kernel
theorem dX0_combineRanks_96 : decode cX0_combineRanks 96 = .ok (.bipush (-2), 2) := by decide +kernel
theorem dX0_combineRanks_98 : decode cX0_combineRanks 98 = .ok (.goto 14, 3) := by decide +kernel
theorem dX0_combineRanks_101 : decode cX0_combineRanks 101 = .ok (.aload_n 0, 1) := by decide +kernel
theorem dX0_combineRanks_102 : decode cX0_combineRanks 102 = .ok (.iload_n 1, 1) := by decide +kernel
theorem dX0_combineRanks_103 : decode cX0_combineRanks 103 = .ok (.lload_n 3, 1) := by decide +kernel
theorem dX0_combineRanks_104 : decode cX0_combineRanks 104 = .ok (.lload 5, 2) := by decide +kernel
theorem dX0_combineRanks_106 : decode cX0_combineRanks 106 = .ok (.invokestatic 73, 3) := by decide +kernel
theorem dX0_combineRanks_109 : decode cX0_combineRanks 109 = .ok (.invokevirtual 44, 3) := by decide +kernel
theorem dX0_combineRanks_112 : decode cX0_combineRanks 112 = .ok (.ireturn, 1) := by decide +kernel
theorem dX0_combineRanks_113 : decode cX0_combineRanks 113 = .ok (.lload 5, 2) := by decide +kernel
theorem dX0_combineRanks_115 : decode cX0_combineRanks 115 = .ok (.lconst 0, 1) := by decide +kernel
theorem dX0_combineRanks_116 : decode cX0_combineRanks 116 = .ok (.lcmp, 1) := by decide +kernel
theorem dX0_combineRanks_117 : decode cX0_combineRanks 117 = .ok (.ifCond .ne 8, 3) := by decide +kernel
theorem dX0_combineRanks_120 : decode cX0_combineRanks 120 = .ok (.bipush (-2), 2) := by decide +kernel
theorem dX0_combineRanks_122 : decode cX0_combineRanks 122 = .ok (.goto 14, 3) := by decide +kernel
theorem dX0_combineRanks_125 : decode cX0_combineRanks 125 = .ok (.aload_n 0, 1) := by decide +kernel
theorem dX0_combineRanks_126 : decode cX0_combineRanks 126 = .ok (.iload_n 1, 1) := by decide +kernel
theorem dX0_combineRanks_127 : decode cX0_combineRanks 127 = .ok (.lload_n 3, 1) := by decide +kernel
theorem dX0_combineRanks_128 : decode cX0_combineRanks 128 = .ok (.lload 5, 2) := by decide +kernel
theorem dX0_combineRanks_130 : decode cX0_combineRanks 130 = .ok (.invokestatic 115, 3) := by decide +kernel
theorem dX0_combineRanks_133 : decode cX0_combineRanks 133 = .ok (.invokevirtual 44, 3) := by decide +kernel
theorem dX0_combineRanks_136 : decode cX0_combineRanks 136 = .ok (.ireturn, 1) := by decide +kernel
theorem dX0_combineRanks_137 : decode cX0_combineRanks 137 = .ok (.aload_n 0, 1) := by decide +kernel
theorem dX0_combineRanks_138 : decode cX0_combineRanks 138 = .ok (.iload_n 1, 1) := by decide +kernel
theorem dX0_combineRanks_139 : decode cX0_combineRanks 139 = .ok (.lload_n 3, 1) := by decide +kernel
theorem dX0_combineRanks_140 : decode cX0_combineRanks 140 = .ok (.lload 5, 2) := by decide +kernel
theorem dX0_combineRanks_142 : decode cX0_combineRanks 142 = .ok (.invokestatic 118, 3) := by decide +kernel
theorem dX0_combineRanks_145 : decode cX0_combineRanks 145 = .ok (.invokevirtual 44, 3) := by decide +kernel
theorem dX0_combineRanks_148 : decode cX0_combineRanks 148 = .ok (.ireturn, 1) := by decide +kernel
theorem dX0_combineRanks_149 : decode cX0_combineRanks 149 = .ok (.aload_n 0, 1) := by decide +kernel
theorem dX0_combineRanks_150 : decode cX0_combineRanks 150 = .ok (.iload_n 1, 1) := by decide +kernel
theorem dX0_combineRanks_151 : decode cX0_combineRanks 151 = .ok (.lload_n 3, 1) := by decide +kernel
theorem dX0_combineRanks_152 : decode cX0_combineRanks 152 = .ok (.lload 5, 2) := by decide +kernel
theorem dX0_combineRanks_154 : decode cX0_combineRanks 154 = .ok (.invokestatic 120, 3) := by decide +kernel
theorem dX0_combineRanks_157 : decode cX0_combineRanks 157 = .ok (.invokevirtual 44, 3) := by decide +kernel
theorem dX0_combineRanks_160 : decode cX0_combineRanks 160 = .ok (.ireturn, 1) := by decide +kernel
theorem dX0_combineRanks_161 : decode cX0_combineRanks 161 = .ok (.aload_n 0, 1) := by decide +kernel
theorem dX0_combineRanks_162 : decode cX0_combineRanks 162 = .ok (.iload_n 1, 1) := by decide +kernel
theorem dX0_combineRanks_163 : decode cX0_combineRanks 163 = .ok (.lload_n 3, 1) := by decide +kernel
theorem dX0_combineRanks_164 : decode cX0_combineRanks 164 = .ok (.lload 5, 2) := by decide +kernel
theorem dX0_combineRanks_166 : decode cX0_combineRanks 166 = .ok (.invokestatic 123, 3) := by decide +kernel
theorem dX0_combineRanks_169 : decode cX0_combineRanks 169 = .ok (.invokevirtual 44, 3) := by decide +kernel
theorem dX0_combineRanks_172 : decode cX0_combineRanks 172 = .ok (.ireturn, 1) := by decide +kernel
theorem dX0_combineRanks_173 : decode cX0_combineRanks 173 = .ok (.lload_n 3, 1) := by decide +kernel
theorem dX0_combineRanks_174 : decode cX0_combineRanks 174 = .ok (.lload 5, 2) := by decide +kernel
theorem dX0_combineRanks_176 : decode cX0_combineRanks 176 = .ok (.invokestatic 126, 3) := by decide +kernel
theorem dX0_combineRanks_179 : decode cX0_combineRanks 179 = .ok (.ifCond .eq 8, 3) := by decide +kernel
theorem dX0_combineRanks_182 : decode cX0_combineRanks 182 = .ok (.bipush (-4), 2) := by decide +kernel
theorem dX0_combineRanks_184 : decode cX0_combineRanks 184 = .ok (.goto 14, 3) := by decide +kernel
theorem dX0_combineRanks_187 : decode cX0_combineRanks 187 = .ok (.aload_n 0, 1) := by decide +kernel
theorem dX0_combineRanks_188 : decode cX0_combineRanks 188 = .ok (.iload_n 1, 1) := by decide +kernel
theorem dX0_combineRanks_189 : decode cX0_combineRanks 189 = .ok (.lload_n 3, 1) := by decide +kernel
theorem dX0_combineRanks_190 : decode cX0_combineRanks 190 = .ok (.lload 5, 2) := by decide +kernel
theorem dX0_combineRanks_192 : decode cX0_combineRanks 192 = .ok (.invokestatic 130, 3) := by decide +kernel
theorem dX0_combineRanks_195 : decode cX0_combineRanks 195 = .ok (.invokevirtual 44, 3) := by decide +kernel
theorem dX0_combineRanks_198 : decode cX0_combineRanks 198 = .ok (.ireturn, 1) := by decide +kernel
theorem dX0_changeRank_0 : decode cX0_changeRank 0 = .ok (.iload_n 2, 1) := by decide +kernel
theorem dX0_changeRank_1 : decode cX0_changeRank 1 = .ok (.tableswitch 110 0 8 #[51, 59, 69, 90, 90, 90, 90, 101, 110], 51) := by decide +kernel
theorem dX0_changeRank_52 : decode cX0_changeRank 52 = .ok (.aload_n 0, 1) := by decide +kernel
theorem dX0_changeRank_53 : decode cX0_changeRank 53 = .ok (.iload_n 1, 1) := by decide +kernel
theorem dX0_changeRank_54 : decode cX0_changeRank 54 = .ok (.lload_n 3, 1) := by decide +kernel
theorem dX0_changeRank_55 : decode cX0_changeRank 55 = .ok (.lneg, 1) := by decide +kernel
theorem dX0_changeRank_56 : decode cX0_changeRank 56 = .ok (.invokevirtual 44, 3) := by decide +kernel
theorem dX0_changeRank_59 : decode cX0_changeRank 59 = .ok (.ireturn, 1) := by decide +kernel
theorem dX0_changeRank_60 : decode cX0_changeRank 60 = .ok (.aload_n 0, 1) := by decide +kernel
theorem dX0_changeRank_61 : decode cX0_changeRank 61 = .ok (.iload_n 1, 1) := by decide +kernel
theorem dX0_changeRank_62 : decode cX0_changeRank 62 = .ok (.lload_n 3, 1) := by decide +kernel
theorem dX0_changeRank_63 : decode cX0_changeRank 63 = .ok (.invokestatic 30, 3) := by decide +kernel
theorem dX0_changeRank_66 : decode cX0_changeRank 66 = .ok (.invokevirtual 44, 3) := by decide +kernel
theorem dX0_changeRank_69 : decode cX0_changeRank 69 = .ok (.ireturn, 1) := by decide +kernel
theorem dX0_changeRank_70 : decode cX0_changeRank 70 = .ok (.lload_n 3, 1) := by decide +kernel
theorem dX0_changeRank_71 : decode cX0_changeRank 71 = .ok (.lconst 0, 1) := by decide +kernel
theorem dX0_changeRank_72 : decode cX0_changeRank 72 = .ok (.lcmp, 1) := by decide +kernel
theorem dX0_changeRank_73 : decode cX0_changeRank 73 = .ok (.ifCond .ge 8, 3) := by decide +kernel
theorem dX0_changeRank_76 : decode cX0_changeRank 76 = .ok (.bipush (-3), 2) := by decide +kernel
theorem dX0_changeRank_78 : decode cX0_changeRank 78 = .ok (.goto 12, 3) := by decide +kernel
theorem dX0_changeRank_81 : decode cX0_changeRank 81 = .ok (.aload_n 0, 1) := by decide +kernel
theorem dX0_changeRank_82 : decode cX0_changeRank 82 = .ok (.iload_n 1, 1) := by decide +kernel
theorem dX0_changeRank_83 : decode cX0_changeRank 83 = .ok (.lload_n 3, 1) := by decide +kernel
theorem dX0_changeRank_84 : decode cX0_changeRank 84 = .ok (.invokestatic 133, 3) := by decide +kernel
theorem dX0_changeRank_87 : decode cX0_changeRank 87 = .ok (.invokevirtual 44, 3) := by decide +kernel
theorem dX0_changeRank_90 : decode cX0_changeRank 90 = .ok (.ireturn, 1) := by decide +kernel
theorem dX0_changeRank_91 : decode cX0_changeRank 91 = .ok (.aload_n 0, 1) := by decide +kernel
theorem dX0_changeRank_92 : decode cX0_changeRank 92 = .ok (.iload_n 1, 1) := by decide +kernel
theorem dX0_changeRank_93 : decode cX0_changeRank 93 = .ok (.iload_n 2, 1) := by decide +kernel
theorem dX0_changeRank_94 : decode cX0_changeRank 94 = .ok (.lload_n 3, 1) := by decide +kernel
theorem dX0_changeRank_95 : decode cX0_changeRank 95 = .ok (.invokestatic 136, 3) := by decide +kernel
theorem dX0_changeRank_98 : decode cX0_changeRank 98 = .ok (.invokevirtual 44, 3) := by decide +kernel
theorem dX0_changeRank_101 : decode cX0_changeRank 101 = .ok (.ireturn, 1) := by decide +kernel
theorem dX0_changeRank_102 : decode cX0_changeRank 102 = .ok (.aload_n 0, 1) := by decide +kernel
theorem dX0_changeRank_103 : decode cX0_changeRank 103 = .ok (.iload_n 1, 1) := by decide +kernel
theorem dX0_changeRank_104 : decode cX0_changeRank 104 = .ok (.lload_n 3, 1) := by decide +kernel
theorem dX0_changeRank_105 : decode cX0_changeRank 105 = .ok (.lconst 1, 1) := by decide +kernel
theorem dX0_changeRank_106 : decode cX0_changeRank 106 = .ok (.ladd, 1) := by decide +kernel
theorem dX0_changeRank_107 : decode cX0_changeRank 107 = .ok (.invokevirtual 44, 3) := by decide +kernel
theorem dX0_changeRank_110 : decode cX0_changeRank 110 = .ok (.ireturn, 1) := by decide +kernel
theorem dX0_changeRank_111 : decode cX0_changeRank 111 = .ok (.aload_n 0, 1) := by decide +kernel
theorem dX0_changeRank_112 : decode cX0_changeRank 112 = .ok (.iload_n 1, 1) := by decide +kernel
theorem dX0_changeRank_113 : decode cX0_changeRank 113 = .ok (.lload_n 3, 1) := by decide +kernel
theorem dX0_changeRank_114 : decode cX0_changeRank 114 = .ok (.lconst 1, 1) := by decide +kernel
theorem dX0_changeRank_115 : decode cX0_changeRank 115 = .ok (.lsub, 1) := by decide +kernel
theorem dX0_changeRank_116 : decode cX0_changeRank 116 = .ok (.invokevirtual 44, 3) := by decide +kernel
theorem dX0_changeRank_119 : decode cX0_changeRank 119 = .ok (.ireturn, 1) := by decide +kernel
theorem dX0_isOver_0 : decode cX0_isOver 0 = .ok (.lload_n 0, 1) := by decide +kernel
theorem dX0_isOver_1 : decode cX0_isOver 1 = .ok (.ldc2_w 140, 3) := by decide +kernel
theorem dX0_isOver_4 : decode cX0_isOver 4 = .ok (.lcmp, 1) := by decide +kernel
theorem dX0_isOver_5 : decode cX0_isOver 5 = .ok (.ifCond .ge 11, 3) := by decide +kernel
theorem dX0_isOver_8 : decode cX0_isOver 8 = .ok (.lload_n 0, 1) := by decide +kernel
theorem dX0_isOver_9 : decode cX0_isOver 9 = .ok (.ldc2_w 142, 3) := by decide +kernel
theorem dX0_isOver_12 : decode cX0_isOver 12 = .ok (.lcmp, 1) := by decide +kernel
theorem dX0_isOver_13 : decode cX0_isOver 13 = .ok (.ifCond .gt 7, 3) := by decide +kernel
theorem dX0_isOver_16 : decode cX0_isOver 16 = .ok (.iconst 1, 1) := by decide +kernel
theorem dX0_isOver_17 : decode cX0_isOver 17 = .ok (.goto 4, 3) := by decide +kernel
theorem dX0_isOver_20 : decode cX0_isOver 20 = .ok (.iconst 0, 1) := by decide +kernel
theorem dX0_isOver_21 : decode cX0_isOver 21 = .ok (.ireturn, 1) := by decide +kernel
theorem dX0_withSignOf_0 : decode cX0_withSignOf 0 = .ok (.lload_n 2, 1) := by decide +kernel
theorem dX0_withSignOf_1 : decode cX0_withSignOf 1 = .ok (.lconst 0, 1) := by decide +kernel
theorem dX0_withSignOf_2 : decode cX0_withSignOf 2 = .ok (.lcmp, 1) := by decide +kernel
theorem dX0_withSignOf_3 : decode cX0_withSignOf 3 = .ok (.ifCond .ge 8, 3) := by decide +kernel
theorem dX0_withSignOf_6 : decode cX0_withSignOf 6 = .ok (.lload_n 0, 1) := by decide +kernel
theorem dX0_withSignOf_7 : decode cX0_withSignOf 7 = .ok (.lneg, 1) := by decide +kernel
theorem dX0_withSignOf_8 : decode cX0_withSignOf 8 = .ok (.goto 4, 3) := by decide +kernel
theorem dX0_withSignOf_11 : decode cX0_withSignOf 11 = .ok (.lload_n 0, 1) := by decide +kernel
theorem dX0_withSignOf_12 : decode cX0_withSignOf 12 = .ok (.lreturn, 1) := by decide +kernel
theorem dX0_mOf_0 : decode cX0_mOf 0 = .ok (.lload_n 0, 1) := by decide +kernel
theorem dX0_mOf_1 : decode cX0_mOf 1 = .ok (.invokestatic 30, 3) := by decide +kernel
theorem dX0_mOf_4 : decode cX0_mOf 4 = .ok (.lstore_n 2, 1) := by decide +kernel
theorem dX0_mOf_5 : decode cX0_mOf 5 = .ok (.lload_n 2, 1) := by decide +kernel
theorem dX0_mOf_6 : decode cX0_mOf 6 = .ok (.ldc2_w 17, 3) := by decide +kernel
theorem dX0_mOf_9 : decode cX0_mOf 9 = .ok (.lcmp, 1) := by decide +kernel
theorem dX0_mOf_10 : decode cX0_mOf 10 = .ok (.ifCond .ge 7, 3) := by decide +kernel
theorem dX0_mOf_13 : decode cX0_mOf 13 = .ok (.lload_n 2, 1) := by decide +kernel
theorem dX0_mOf_14 : decode cX0_mOf 14 = .ok (.goto 13, 3) := by decide +kernel
theorem dX0_mOf_17 : decode cX0_mOf 17 = .ok (.lload_n 2, 1) := by decide +kernel
theorem dX0_mOf_18 : decode cX0_mOf 18 = .ok (.bipush 52, 2) := by decide +kernel
theorem dX0_mOf_20 : decode cX0_mOf 20 = .ok (.invokestatic 100, 3) := by decide +kernel
theorem dX0_mOf_23 : decode cX0_mOf 23 = .ok (.ldc2_w 144, 3) := by decide +kernel
theorem dX0_mOf_26 : decode cX0_mOf 26 = .ok (.lor, 1) := by decide +kernel
theorem dX0_mOf_27 : decode cX0_mOf 27 = .ok (.lreturn, 1) := by decide +kernel
theorem dX0_eOf_0 : decode cX0_eOf 0 = .ok (.lload_n 0, 1) := by decide +kernel
theorem dX0_eOf_1 : decode cX0_eOf 1 = .ok (.invokestatic 30, 3) := by decide +kernel
theorem dX0_eOf_4 : decode cX0_eOf 4 = .ok (.lstore_n 2, 1) := by decide +kernel
theorem dX0_eOf_5 : decode cX0_eOf 5 = .ok (.lload_n 2, 1) := by decide +kernel
theorem dX0_eOf_6 : decode cX0_eOf 6 = .ok (.ldc2_w 17, 3) := by decide +kernel
theorem dX0_eOf_9 : decode cX0_eOf 9 = .ok (.lcmp, 1) := by decide +kernel
theorem dX0_eOf_10 : decode cX0_eOf 10 = .ok (.ifCond .ge 9, 3) := by decide +kernel
theorem dX0_eOf_13 : decode cX0_eOf 13 = .ok (.sipush (-1074), 3) := by decide +kernel
theorem dX0_eOf_16 : decode cX0_eOf 16 = .ok (.goto 14, 3) := by decide +kernel
theorem dX0_eOf_19 : decode cX0_eOf 19 = .ok (.lload_n 2, 1) := by decide +kernel
theorem dX0_eOf_20 : decode cX0_eOf 20 = .ok (.bipush 52, 2) := by decide +kernel
theorem dX0_eOf_22 : decode cX0_eOf 22 = .ok (.lushr, 1) := by decide +kernel
theorem dX0_eOf_23 : decode cX0_eOf 23 = .ok (.l2i, 1) := by decide +kernel
theorem dX0_eOf_24 : decode cX0_eOf 24 = .ok (.iconst 1, 1) := by decide +kernel
theorem dX0_eOf_25 : decode cX0_eOf 25 = .ok (.isub, 1) := by decide +kernel
theorem dX0_eOf_26 : decode cX0_eOf 26 = .ok (.sipush (-1074), 3) := by decide +kernel
theorem dX0_eOf_29 : decode cX0_eOf 29 = .ok (.iadd, 1) := by decide +kernel
theorem dX0_eOf_30 : decode cX0_eOf 30 = .ok (.ireturn, 1) := by decide +kernel
theorem dX0_lift_0 : decode cX0_lift 0 = .ok (.iconst 0, 1) := by decide +kernel
theorem dX0_lift_1 : decode cX0_lift 1 = .ok (.lload_n 0, 1) := by decide +kernel
theorem dX0_lift_2 : decode cX0_lift 2 = .ok (.invokestatic 76, 3) := by decide +kernel
theorem dX0_lift_5 : decode cX0_lift 5 = .ok (.invokestatic 146, 3) := by decide +kernel
theorem dX0_lift_8 : decode cX0_lift 8 = .ok (.bipush 11, 2) := by decide +kernel
theorem dX0_lift_10 : decode cX0_lift 10 = .ok (.isub, 1) := by decide +kernel
theorem dX0_lift_11 : decode cX0_lift 11 = .ok (.invokestatic 151, 3) := by decide +kernel
theorem dX0_lift_14 : decode cX0_lift 14 = .ok (.ireturn, 1) := by decide +kernel
theorem dX0_liftedM_0 : decode cX0_liftedM 0 = .ok (.lload_n 0, 1) := by decide +kernel
theorem dX0_liftedM_1 : decode cX0_liftedM 1 = .ok (.invokestatic 76, 3) := by decide +kernel
theorem dX0_liftedM_4 : decode cX0_liftedM 4 = .ok (.lload_n 0, 1) := by decide +kernel
theorem dX0_liftedM_5 : decode cX0_liftedM 5 = .ok (.invokestatic 153, 3) := by decide +kernel
theorem dX0_liftedM_8 : decode cX0_liftedM 8 = .ok (.lshl, 1) := by decide +kernel
theorem dX0_liftedM_9 : decode cX0_liftedM 9 = .ok (.lreturn, 1) := by decide +kernel
theorem dX0_liftedE_0 : decode cX0_liftedE 0 = .ok (.lload_n 0, 1) := by decide +kernel
theorem dX0_liftedE_1 : decode cX0_liftedE 1 = .ok (.invokestatic 79, 3) := by decide +kernel
theorem dX0_liftedE_4 : decode cX0_liftedE 4 = .ok (.lload_n 0, 1) := by decide +kernel
theorem dX0_liftedE_5 : decode cX0_liftedE 5 = .ok (.invokestatic 153, 3) := by decide +kernel
theorem dX0_liftedE_8 : decode cX0_liftedE 8 = .ok (.isub, 1) := by decide +kernel
theorem dX0_liftedE_9 : decode cX0_liftedE 9 = .ok (.ireturn, 1) := by decide +kernel
theorem dX0_lowPlaces_0 : decode cX0_lowPlaces 0 = .ok (.lload_n 0, 1) := by decide +kernel
theorem dX0_lowPlaces_1 : decode cX0_lowPlaces 1 = .ok (.lconst 1, 1) := by decide +kernel
theorem dX0_lowPlaces_2 : decode cX0_lowPlaces 2 = .ok (.iload_n 2, 1) := by decide +kernel
theorem dX0_lowPlaces_3 : decode cX0_lowPlaces 3 = .ok (.lshl, 1) := by decide +kernel
theorem dX0_lowPlaces_4 : decode cX0_lowPlaces 4 = .ok (.lconst 1, 1) := by decide +kernel
theorem dX0_lowPlaces_5 : decode cX0_lowPlaces 5 = .ok (.lsub, 1) := by decide +kernel
theorem dX0_lowPlaces_6 : decode cX0_lowPlaces 6 = .ok (.land, 1) := by decide +kernel
theorem dX0_lowPlaces_7 : decode cX0_lowPlaces 7 = .ok (.lreturn, 1) := by decide +kernel
theorem dX0_lower_0 : decode cX0_lower 0 = .ok (.iload_n 2, 1) := by decide +kernel
theorem dX0_lower_1 : decode cX0_lower 1 = .ok (.bipush 62, 2) := by decide +kernel
theorem dX0_lower_3 : decode cX0_lower 3 = .ok (.if_icmp .lt 15, 3) := by decide +kernel
theorem dX0_lower_6 : decode cX0_lower 6 = .ok (.lload_n 0, 1) := by decide +kernel
theorem dX0_lower_7 : decode cX0_lower 7 = .ok (.lconst 0, 1) := by decide +kernel
theorem dX0_lower_8 : decode cX0_lower 8 = .ok (.lcmp, 1) := by decide +kernel
theorem dX0_lower_9 : decode cX0_lower 9 = .ok (.ifCond .ne 7, 3) := by decide +kernel
theorem dX0_lower_12 : decode cX0_lower 12 = .ok (.lconst 0, 1) := by decide +kernel
theorem dX0_lower_13 : decode cX0_lower 13 = .ok (.goto 4, 3) := by decide +kernel
theorem dX0_lower_16 : decode cX0_lower 16 = .ok (.lconst 1, 1) := by decide +kernel
theorem dX0_lower_17 : decode cX0_lower 17 = .ok (.lreturn, 1) := by decide +kernel
theorem dX0_lower_18 : decode cX0_lower 18 = .ok (.lload_n 0, 1) := by decide +kernel
theorem dX0_lower_19 : decode cX0_lower 19 = .ok (.iload_n 2, 1) := by decide +kernel
theorem dX0_lower_20 : decode cX0_lower 20 = .ok (.invokestatic 100, 3) := by decide +kernel
theorem dX0_lower_23 : decode cX0_lower 23 = .ok (.lconst 0, 1) := by decide +kernel
theorem dX0_lower_24 : decode cX0_lower 24 = .ok (.lcmp, 1) := by decide +kernel
theorem dX0_lower_25 : decode cX0_lower 25 = .ok (.ifCond .ne 7, 3) := by decide +kernel
theorem dX0_lower_28 : decode cX0_lower 28 = .ok (.lconst 0, 1) := by decide +kernel
theorem dX0_lower_29 : decode cX0_lower 29 = .ok (.goto 4, 3) := by decide +kernel
theorem dX0_lower_32 : decode cX0_lower 32 = .ok (.lconst 1, 1) := by decide +kernel
theorem dX0_lower_33 : decode cX0_lower 33 = .ok (.lstore_n 3, 1) := by decide +kernel
theorem dX0_lower_34 : decode cX0_lower 34 = .ok (.lload_n 0, 1) := by decide +kernel
theorem dX0_lower_35 : decode cX0_lower 35 = .ok (.iload_n 2, 1) := by decide +kernel
theorem dX0_lower_36 : decode cX0_lower 36 = .ok (.lushr, 1) := by decide +kernel
theorem dX0_lower_37 : decode cX0_lower 37 = .ok (.lload_n 3, 1) := by decide +kernel
theorem dX0_lower_38 : decode cX0_lower 38 = .ok (.lor, 1) := by decide +kernel
theorem dX0_lower_39 : decode cX0_lower 39 = .ok (.lreturn, 1) := by decide +kernel
theorem dX0_nearestWhole_0 : decode cX0_nearestWhole 0 = .ok (.lload_n 0, 1) := by decide +kernel
theorem dX0_nearestWhole_1 : decode cX0_nearestWhole 1 = .ok (.iload_n 2, 1) := by decide +kernel
theorem dX0_nearestWhole_2 : decode cX0_nearestWhole 2 = .ok (.lushr, 1) := by decide +kernel
theorem dX0_nearestWhole_3 : decode cX0_nearestWhole 3 = .ok (.lstore_n 3, 1) := by decide +kernel
theorem dX0_nearestWhole_4 : decode cX0_nearestWhole 4 = .ok (.lload_n 0, 1) := by decide +kernel
theorem dX0_nearestWhole_5 : decode cX0_nearestWhole 5 = .ok (.iload_n 2, 1) := by decide +kernel
theorem dX0_nearestWhole_6 : decode cX0_nearestWhole 6 = .ok (.invokestatic 100, 3) := by decide +kernel
theorem dX0_nearestWhole_9 : decode cX0_nearestWhole 9 = .ok (.lstore 5, 2) := by decide +kernel
theorem dX0_nearestWhole_11 : decode cX0_nearestWhole 11 = .ok (.lconst 1, 1) := by decide +kernel
theorem dX0_nearestWhole_12 : decode cX0_nearestWhole 12 = .ok (.iload_n 2, 1) := by decide +kernel
theorem dX0_nearestWhole_13 : decode cX0_nearestWhole 13 = .ok (.iconst 1, 1) := by decide +kernel
theorem dX0_nearestWhole_14 : decode cX0_nearestWhole 14 = .ok (.isub, 1) := by decide +kernel
theorem dX0_nearestWhole_15 : decode cX0_nearestWhole 15 = .ok (.lshl, 1) := by decide +kernel
theorem dX0_nearestWhole_16 : decode cX0_nearestWhole 16 = .ok (.lstore 7, 2) := by decide +kernel
theorem dX0_nearestWhole_18 : decode cX0_nearestWhole 18 = .ok (.lload 5, 2) := by decide +kernel
theorem dX0_nearestWhole_20 : decode cX0_nearestWhole 20 = .ok (.lload 7, 2) := by decide +kernel
theorem dX0_nearestWhole_22 : decode cX0_nearestWhole 22 = .ok (.lcmp, 1) := by decide +kernel
theorem dX0_nearestWhole_23 : decode cX0_nearestWhole 23 = .ok (.ifCond .gt 19, 3) := by decide +kernel
theorem dX0_nearestWhole_26 : decode cX0_nearestWhole 26 = .ok (.lload 5, 2) := by decide +kernel
theorem dX0_nearestWhole_28 : decode cX0_nearestWhole 28 = .ok (.lload 7, 2) := by decide +kernel
theorem dX0_nearestWhole_30 : decode cX0_nearestWhole 30 = .ok (.lcmp, 1) := by decide +kernel
theorem dX0_nearestWhole_31 : decode cX0_nearestWhole 31 = .ok (.ifCond .ne 15, 3) := by decide +kernel
theorem dX0_nearestWhole_34 : decode cX0_nearestWhole 34 = .ok (.lload_n 3, 1) := by decide +kernel
theorem dX0_nearestWhole_35 : decode cX0_nearestWhole 35 = .ok (.lconst 1, 1) := by decide +kernel
theorem dX0_nearestWhole_36 : decode cX0_nearestWhole 36 = .ok (.land, 1) := by decide +kernel
theorem dX0_nearestWhole_37 : decode cX0_nearestWhole 37 = .ok (.lconst 1, 1) := by decide +kernel
theorem dX0_nearestWhole_38 : decode cX0_nearestWhole 38 = .ok (.lcmp, 1) := by decide +kernel
theorem dX0_nearestWhole_39 : decode cX0_nearestWhole 39 = .ok (.ifCond .ne 7, 3) := by decide +kernel
theorem dX0_nearestWhole_42 : decode cX0_nearestWhole 42 = .ok (.iconst 1, 1) := by decide +kernel
theorem dX0_nearestWhole_43 : decode cX0_nearestWhole 43 = .ok (.goto 4, 3) := by decide +kernel
theorem dX0_nearestWhole_46 : decode cX0_nearestWhole 46 = .ok (.iconst 0, 1) := by decide +kernel
theorem dX0_nearestWhole_47 : decode cX0_nearestWhole 47 = .ok (.istore 9, 2) := by decide +kernel
theorem dX0_nearestWhole_49 : decode cX0_nearestWhole 49 = .ok (.iload 9, 2) := by decide +kernel
theorem dX0_nearestWhole_51 : decode cX0_nearestWhole 51 = .ok (.ifCond .eq 9, 3) := by decide +kernel
theorem dX0_nearestWhole_54 : decode cX0_nearestWhole 54 = .ok (.lload_n 3, 1) := by decide +kernel
theorem dX0_nearestWhole_55 : decode cX0_nearestWhole 55 = .ok (.lconst 1, 1) := by decide +kernel
theorem dX0_nearestWhole_56 : decode cX0_nearestWhole 56 = .ok (.ladd, 1) := by decide +kernel
theorem dX0_nearestWhole_57 : decode cX0_nearestWhole 57 = .ok (.goto 4, 3) := by decide +kernel
theorem dX0_nearestWhole_60 : decode cX0_nearestWhole 60 = .ok (.lload_n 3, 1) := by decide +kernel
theorem dX0_nearestWhole_61 : decode cX0_nearestWhole 61 = .ok (.lreturn, 1) := by decide +kernel
theorem dX0_nearest_0 : decode cX0_nearest 0 = .ok (.lload_n 0, 1) := by decide +kernel
theorem dX0_nearest_1 : decode cX0_nearest 1 = .ok (.lconst 0, 1) := by decide +kernel
theorem dX0_nearest_2 : decode cX0_nearest 2 = .ok (.lcmp, 1) := by decide +kernel
theorem dX0_nearest_3 : decode cX0_nearest 3 = .ok (.ifCond .ne 5, 3) := by decide +kernel
theorem dX0_nearest_6 : decode cX0_nearest 6 = .ok (.lconst 0, 1) := by decide +kernel
theorem dX0_nearest_7 : decode cX0_nearest 7 = .ok (.lreturn, 1) := by decide +kernel
theorem dX0_nearest_8 : decode cX0_nearest 8 = .ok (.bipush 64, 2) := by decide +kernel
theorem dX0_nearest_10 : decode cX0_nearest 10 = .ok (.lload_n 0, 1) := by decide +kernel
theorem dX0_nearest_11 : decode cX0_nearest 11 = .ok (.invokestatic 146, 3) := by decide +kernel
theorem dX0_nearest_14 : decode cX0_nearest 14 = .ok (.isub, 1) := by decide +kernel
theorem dX0_nearest_15 : decode cX0_nearest 15 = .ok (.istore_n 3, 1) := by decide +kernel
theorem dX0_nearest_16 : decode cX0_nearest 16 = .ok (.iload_n 3, 1) := by decide +kernel
theorem dX0_nearest_17 : decode cX0_nearest 17 = .ok (.bipush 53, 2) := by decide +kernel
theorem dX0_nearest_19 : decode cX0_nearest 19 = .ok (.isub, 1) := by decide +kernel
theorem dX0_nearest_20 : decode cX0_nearest 20 = .ok (.sipush (-1074), 3) := by decide +kernel
theorem dX0_nearest_23 : decode cX0_nearest 23 = .ok (.iload_n 2, 1) := by decide +kernel
theorem dX0_nearest_24 : decode cX0_nearest 24 = .ok (.isub, 1) := by decide +kernel
theorem dX0_nearest_25 : decode cX0_nearest 25 = .ok (.invokestatic 151, 3) := by decide +kernel
theorem dX0_nearest_28 : decode cX0_nearest 28 = .ok (.istore 4, 2) := by decide +kernel
theorem dX0_nearest_30 : decode cX0_nearest 30 = .ok (.iload 4, 2) := by decide +kernel
theorem dX0_nearest_32 : decode cX0_nearest 32 = .ok (.bipush 63, 2) := by decide +kernel
theorem dX0_nearest_34 : decode cX0_nearest 34 = .ok (.if_icmp .le 5, 3) := by decide +kernel
theorem dX0_nearest_37 : decode cX0_nearest 37 = .ok (.lconst 0, 1) := by decide +kernel
theorem dX0_nearest_38 : decode cX0_nearest 38 = .ok (.lreturn, 1) := by decide +kernel
theorem dX0_nearest_39 : decode cX0_nearest 39 = .ok (.iload_n 2, 1) := by decide +kernel
theorem dX0_nearest_40 : decode cX0_nearest 40 = .ok (.iload 4, 2) := by decide +kernel
theorem dX0_nearest_42 : decode cX0_nearest 42 = .ok (.iadd, 1) := by decide +kernel
theorem dX0_nearest_43 : decode cX0_nearest 43 = .ok (.istore 5, 2) := by decide +kernel
theorem dX0_nearest_45 : decode cX0_nearest 45 = .ok (.iload 5, 2) := by decide +kernel
theorem dX0_nearest_47 : decode cX0_nearest 47 = .ok (.sipush 971, 3) := by decide +kernel
theorem dX0_nearest_50 : decode cX0_nearest 50 = .ok (.if_icmp .le 7, 3) := by decide +kernel
theorem dX0_nearest_53 : decode cX0_nearest 53 = .ok (.ldc2_w 140, 3) := by decide +kernel
theorem dX0_nearest_56 : decode cX0_nearest 56 = .ok (.lreturn, 1) := by decide +kernel
theorem dX0_nearest_57 : decode cX0_nearest 57 = .ok (.iload 4, 2) := by decide +kernel
theorem dX0_nearest_59 : decode cX0_nearest 59 = .ok (.ifCond .le 12, 3) := by decide +kernel
theorem dX0_nearest_62 : decode cX0_nearest 62 = .ok (.lload_n 0, 1) := by decide +kernel
theorem dX0_nearest_63 : decode cX0_nearest 63 = .ok (.iload 4, 2) := by decide +kernel
theorem dX0_nearest_65 : decode cX0_nearest 65 = .ok (.invokestatic 156, 3) := by decide +kernel
theorem dX0_nearest_68 : decode cX0_nearest 68 = .ok (.goto 8, 3) := by decide +kernel
theorem dX0_nearest_71 : decode cX0_nearest 71 = .ok (.lload_n 0, 1) := by decide +kernel
theorem dX0_nearest_72 : decode cX0_nearest 72 = .ok (.iload 4, 2) := by decide +kernel
theorem dX0_nearest_74 : decode cX0_nearest 74 = .ok (.ineg, 1) := by decide +kernel
theorem dX0_nearest_75 : decode cX0_nearest 75 = .ok (.lshl, 1) := by decide +kernel
theorem dX0_nearest_76 : decode cX0_nearest 76 = .ok (.lstore 6, 2) := by decide +kernel
theorem dX0_nearest_78 : decode cX0_nearest 78 = .ok (.iload 5, 2) := by decide +kernel
theorem dX0_nearest_80 : decode cX0_nearest 80 = .ok (.sipush (-1074), 3) := by decide +kernel
theorem dX0_nearest_83 : decode cX0_nearest 83 = .ok (.isub, 1) := by decide +kernel
theorem dX0_nearest_84 : decode cX0_nearest 84 = .ok (.i2l, 1) := by decide +kernel
theorem dX0_nearest_85 : decode cX0_nearest 85 = .ok (.bipush 52, 2) := by decide +kernel
theorem dX0_nearest_87 : decode cX0_nearest 87 = .ok (.lshl, 1) := by decide +kernel
theorem dX0_nearest_88 : decode cX0_nearest 88 = .ok (.lload 6, 2) := by decide +kernel
theorem dX0_nearest_90 : decode cX0_nearest 90 = .ok (.ladd, 1) := by decide +kernel
theorem dX0_nearest_91 : decode cX0_nearest 91 = .ok (.lreturn, 1) := by decide +kernel
theorem dX0_greatInSize_0 : decode cX0_greatInSize 0 = .ok (.lload_n 0, 1) := by decide +kernel
theorem dX0_greatInSize_1 : decode cX0_greatInSize 1 = .ok (.invokestatic 30, 3) := by decide +kernel
theorem dX0_greatInSize_4 : decode cX0_greatInSize 4 = .ok (.lload_n 2, 1) := by decide +kernel
theorem dX0_greatInSize_5 : decode cX0_greatInSize 5 = .ok (.invokestatic 30, 3) := by decide +kernel
theorem dX0_greatInSize_8 : decode cX0_greatInSize 8 = .ok (.lcmp, 1) := by decide +kernel
theorem dX0_greatInSize_9 : decode cX0_greatInSize 9 = .ok (.ifCond .lt 7, 3) := by decide +kernel
theorem dX0_greatInSize_12 : decode cX0_greatInSize 12 = .ok (.lload_n 0, 1) := by decide +kernel
theorem dX0_greatInSize_13 : decode cX0_greatInSize 13 = .ok (.goto 4, 3) := by decide +kernel
theorem dX0_greatInSize_16 : decode cX0_greatInSize 16 = .ok (.lload_n 2, 1) := by decide +kernel
theorem dX0_greatInSize_17 : decode cX0_greatInSize 17 = .ok (.lreturn, 1) := by decide +kernel
theorem dX0_smallInSize_0 : decode cX0_smallInSize 0 = .ok (.lload_n 0, 1) := by decide +kernel
theorem dX0_smallInSize_1 : decode cX0_smallInSize 1 = .ok (.invokestatic 30, 3) := by decide +kernel
theorem dX0_smallInSize_4 : decode cX0_smallInSize 4 = .ok (.lload_n 2, 1) := by decide +kernel
theorem dX0_smallInSize_5 : decode cX0_smallInSize 5 = .ok (.invokestatic 30, 3) := by decide +kernel
theorem dX0_smallInSize_8 : decode cX0_smallInSize 8 = .ok (.lcmp, 1) := by decide +kernel
theorem dX0_smallInSize_9 : decode cX0_smallInSize 9 = .ok (.ifCond .lt 7, 3) := by decide +kernel
theorem dX0_smallInSize_12 : decode cX0_smallInSize 12 = .ok (.lload_n 2, 1) := by decide +kernel
theorem dX0_smallInSize_13 : decode cX0_smallInSize 13 = .ok (.goto 4, 3) := by decide +kernel
theorem dX0_smallInSize_16 : decode cX0_smallInSize 16 = .ok (.lload_n 0, 1) := by decide +kernel
theorem dX0_smallInSize_17 : decode cX0_smallInSize 17 = .ok (.lreturn, 1) := by decide +kernel
theorem dX0_sum_0 : decode cX0_sum 0 = .ok (.lload_n 0, 1) := by decide +kernel
theorem dX0_sum_1 : decode cX0_sum 1 = .ok (.lload_n 2, 1) := by decide +kernel
theorem dX0_sum_2 : decode cX0_sum 2 = .ok (.invokestatic 159, 3) := by decide +kernel
theorem dX0_sum_5 : decode cX0_sum 5 = .ok (.lstore 4, 2) := by decide +kernel
theorem dX0_sum_7 : decode cX0_sum 7 = .ok (.lload_n 0, 1) := by decide +kernel
theorem dX0_sum_8 : decode cX0_sum 8 = .ok (.lload_n 2, 1) := by decide +kernel
theorem dX0_sum_9 : decode cX0_sum 9 = .ok (.invokestatic 162, 3) := by decide +kernel
theorem dX0_sum_12 : decode cX0_sum 12 = .ok (.lstore 6, 2) := by decide +kernel
theorem dX0_sum_14 : decode cX0_sum 14 = .ok (.lload 4, 2) := by decide +kernel
theorem dX0_sum_16 : decode cX0_sum 16 = .ok (.invokestatic 79, 3) := by decide +kernel
theorem dX0_sum_19 : decode cX0_sum 19 = .ok (.lload 6, 2) := by decide +kernel
theorem dX0_sum_21 : decode cX0_sum 21 = .ok (.invokestatic 79, 3) := by decide +kernel
theorem dX0_sum_24 : decode cX0_sum 24 = .ok (.isub, 1) := by decide +kernel
theorem dX0_sum_25 : decode cX0_sum 25 = .ok (.istore 8, 2) := by decide +kernel
theorem dX0_sum_27 : decode cX0_sum 27 = .ok (.iload 8, 2) := by decide +kernel
theorem dX0_sum_29 : decode cX0_sum 29 = .ok (.bipush 9, 2) := by decide +kernel
theorem dX0_sum_31 : decode cX0_sum 31 = .ok (.invokestatic 96, 3) := by decide +kernel
theorem dX0_sum_34 : decode cX0_sum 34 = .ok (.istore 9, 2) := by decide +kernel
theorem dX0_sum_36 : decode cX0_sum 36 = .ok (.lload 4, 2) := by decide +kernel
theorem dX0_sum_38 : decode cX0_sum 38 = .ok (.invokestatic 76, 3) := by decide +kernel
theorem dX0_sum_41 : decode cX0_sum 41 = .ok (.iload 9, 2) := by decide +kernel
theorem dX0_sum_43 : decode cX0_sum 43 = .ok (.lshl, 1) := by decide +kernel
theorem dX0_sum_44 : decode cX0_sum 44 = .ok (.lstore 10, 2) := by decide +kernel
theorem dX0_sum_46 : decode cX0_sum 46 = .ok (.lload 6, 2) := by decide +kernel
theorem dX0_sum_48 : decode cX0_sum 48 = .ok (.invokestatic 76, 3) := by decide +kernel
theorem dX0_sum_51 : decode cX0_sum 51 = .ok (.iload 8, 2) := by decide +kernel
theorem dX0_sum_53 : decode cX0_sum 53 = .ok (.iload 9, 2) := by decide +kernel
theorem dX0_sum_55 : decode cX0_sum 55 = .ok (.isub, 1) := by decide +kernel
theorem dX0_sum_56 : decode cX0_sum 56 = .ok (.invokestatic 165, 3) := by decide +kernel
theorem dX0_sum_59 : decode cX0_sum 59 = .ok (.lstore 12, 2) := by decide +kernel
theorem dX0_sum_61 : decode cX0_sum 61 = .ok (.lload 4, 2) := by decide +kernel
theorem dX0_sum_63 : decode cX0_sum 63 = .ok (.lconst 0, 1) := by decide +kernel
theorem dX0_sum_64 : decode cX0_sum 64 = .ok (.lcmp, 1) := by decide +kernel
theorem dX0_sum_65 : decode cX0_sum 65 = .ok (.ifCond .ge 7, 3) := by decide +kernel
theorem dX0_sum_68 : decode cX0_sum 68 = .ok (.iconst 1, 1) := by decide +kernel
theorem dX0_sum_69 : decode cX0_sum 69 = .ok (.goto 4, 3) := by decide +kernel
theorem dX0_sum_72 : decode cX0_sum 72 = .ok (.iconst 0, 1) := by decide +kernel
theorem dX0_sum_73 : decode cX0_sum 73 = .ok (.lload 6, 2) := by decide +kernel
theorem dX0_sum_75 : decode cX0_sum 75 = .ok (.lconst 0, 1) := by decide +kernel
theorem dX0_sum_76 : decode cX0_sum 76 = .ok (.lcmp, 1) := by decide +kernel
theorem dX0_sum_77 : decode cX0_sum 77 = .ok (.ifCond .ge 7, 3) := by decide +kernel
theorem dX0_sum_80 : decode cX0_sum 80 = .ok (.iconst 1, 1) := by decide +kernel
theorem dX0_sum_81 : decode cX0_sum 81 = .ok (.goto 4, 3) := by decide +kernel
theorem dX0_sum_84 : decode cX0_sum 84 = .ok (.iconst 0, 1) := by decide +kernel
theorem dX0_sum_85 : decode cX0_sum 85 = .ok (.if_icmp .ne 7, 3) := by decide +kernel
theorem dX0_sum_88 : decode cX0_sum 88 = .ok (.iconst 1, 1) := by decide +kernel
theorem dX0_sum_89 : decode cX0_sum 89 = .ok (.goto 4, 3) := by decide +kernel
theorem dX0_sum_92 : decode cX0_sum 92 = .ok (.iconst 0, 1) := by decide +kernel
theorem dX0_sum_93 : decode cX0_sum 93 = .ok (.istore 14, 2) := by decide +kernel
theorem dX0_sum_95 : decode cX0_sum 95 = .ok (.iload 14, 2) := by decide +kernel
theorem dX0_sum_97 : decode cX0_sum 97 = .ok (.ifCond .eq 11, 3) := by decide +kernel
theorem dX0_sum_100 : decode cX0_sum 100 = .ok (.lload 10, 2) := by decide +kernel
theorem dX0_sum_102 : decode cX0_sum 102 = .ok (.lload 12, 2) := by decide +kernel
theorem dX0_sum_104 : decode cX0_sum 104 = .ok (.ladd, 1) := by decide +kernel
theorem dX0_sum_105 : decode cX0_sum 105 = .ok (.goto 8, 3) := by decide +kernel
theorem dX0_sum_108 : decode cX0_sum 108 = .ok (.lload 10, 2) := by decide +kernel
theorem dX0_sum_110 : decode cX0_sum 110 = .ok (.lload 12, 2) := by decide +kernel
theorem dX0_sum_112 : decode cX0_sum 112 = .ok (.lsub, 1) := by decide +kernel
theorem dX0_sum_113 : decode cX0_sum 113 = .ok (.lstore 15, 2) := by decide +kernel
theorem dX0_sum_115 : decode cX0_sum 115 = .ok (.lload 15, 2) := by decide +kernel
theorem dX0_sum_117 : decode cX0_sum 117 = .ok (.lload 4, 2) := by decide +kernel
theorem dX0_sum_119 : decode cX0_sum 119 = .ok (.invokestatic 79, 3) := by decide +kernel
theorem dX0_sum_122 : decode cX0_sum 122 = .ok (.iload 9, 2) := by decide +kernel
theorem dX0_sum_124 : decode cX0_sum 124 = .ok (.isub, 1) := by decide +kernel
theorem dX0_sum_125 : decode cX0_sum 125 = .ok (.invokestatic 36, 3) := by decide +kernel
theorem dX0_sum_128 : decode cX0_sum 128 = .ok (.lload 4, 2) := by decide +kernel
theorem dX0_sum_130 : decode cX0_sum 130 = .ok (.invokestatic 40, 3) := by decide +kernel
theorem dX0_sum_133 : decode cX0_sum 133 = .ok (.lreturn, 1) := by decide +kernel
theorem dX0_sumError_0 : decode cX0_sumError 0 = .ok (.lload_n 0, 1) := by decide +kernel
theorem dX0_sumError_1 : decode cX0_sumError 1 = .ok (.lload_n 2, 1) := by decide +kernel
theorem dX0_sumError_2 : decode cX0_sumError 2 = .ok (.invokestatic 159, 3) := by decide +kernel
theorem dX0_sumError_5 : decode cX0_sumError 5 = .ok (.lstore 4, 2) := by decide +kernel
theorem dX0_sumError_7 : decode cX0_sumError 7 = .ok (.lload_n 0, 1) := by decide +kernel
theorem dX0_sumError_8 : decode cX0_sumError 8 = .ok (.lload_n 2, 1) := by decide +kernel
theorem dX0_sumError_9 : decode cX0_sumError 9 = .ok (.invokestatic 162, 3) := by decide +kernel
theorem dX0_sumError_12 : decode cX0_sumError 12 = .ok (.lstore 6, 2) := by decide +kernel
theorem dX0_sumError_14 : decode cX0_sumError 14 = .ok (.lload 4, 2) := by decide +kernel
theorem dX0_sumError_16 : decode cX0_sumError 16 = .ok (.lload 6, 2) := by decide +kernel
theorem dX0_sumError_18 : decode cX0_sumError 18 = .ok (.invokestatic 109, 3) := by decide +kernel
theorem dX0_sumError_21 : decode cX0_sumError 21 = .ok (.lstore 8, 2) := by decide +kernel
theorem dX0_sumError_23 : decode cX0_sumError 23 = .ok (.lload 8, 2) := by decide +kernel
theorem dX0_sumError_25 : decode cX0_sumError 25 = .ok (.invokestatic 67, 3) := by decide +kernel
theorem dX0_sumError_28 : decode cX0_sumError 28 = .ok (.ifCond .eq 6, 3) := by decide +kernel
theorem dX0_sumError_31 : decode cX0_sumError 31 = .ok (.lload 8, 2) := by decide +kernel
theorem dX0_sumError_33 : decode cX0_sumError 33 = .ok (.lreturn, 1) := by decide +kernel
theorem dX0_sumError_34 : decode cX0_sumError 34 = .ok (.lload 6, 2) := by decide +kernel
theorem dX0_sumError_36 : decode cX0_sumError 36 = .ok (.lload 8, 2) := by decide +kernel
theorem dX0_sumError_38 : decode cX0_sumError 38 = .ok (.lload 4, 2) := by decide +kernel
theorem dX0_sumError_40 : decode cX0_sumError 40 = .ok (.lneg, 1) := by decide +kernel
theorem dX0_sumError_41 : decode cX0_sumError 41 = .ok (.invokestatic 109, 3) := by decide +kernel
theorem dX0_sumError_44 : decode cX0_sumError 44 = .ok (.lneg, 1) := by decide +kernel
theorem dX0_sumError_45 : decode cX0_sumError 45 = .ok (.invokestatic 109, 3) := by decide +kernel
theorem dX0_sumError_48 : decode cX0_sumError 48 = .ok (.lreturn, 1) := by decide +kernel
theorem dX0_product_0 : decode cX0_product 0 = .ok (.lload_n 0, 1) := by decide +kernel
theorem dX0_product_1 : decode cX0_product 1 = .ok (.lconst 0, 1) := by decide +kernel
theorem dX0_product_2 : decode cX0_product 2 = .ok (.lcmp, 1) := by decide +kernel
theorem dX0_product_3 : decode cX0_product 3 = .ok (.ifCond .eq 9, 3) := by decide +kernel
theorem dX0_product_6 : decode cX0_product 6 = .ok (.lload_n 2, 1) := by decide +kernel
theorem dX0_product_7 : decode cX0_product 7 = .ok (.lconst 0, 1) := by decide +kernel
theorem dX0_product_8 : decode cX0_product 8 = .ok (.lcmp, 1) := by decide +kernel
theorem dX0_product_9 : decode cX0_product 9 = .ok (.ifCond .ne 5, 3) := by decide +kernel
theorem dX0_product_12 : decode cX0_product 12 = .ok (.lconst 0, 1) := by decide +kernel
theorem dX0_product_13 : decode cX0_product 13 = .ok (.lreturn, 1) := by decide +kernel
theorem dX0_product_14 : decode cX0_product 14 = .ok (.lload_n 0, 1) := by decide +kernel
theorem dX0_product_15 : decode cX0_product 15 = .ok (.invokestatic 168, 3) := by decide +kernel
theorem dX0_product_18 : decode cX0_product 18 = .ok (.lload_n 2, 1) := by decide +kernel
theorem dX0_product_19 : decode cX0_product 19 = .ok (.invokestatic 168, 3) := by decide +kernel
theorem dX0_product_22 : decode cX0_product 22 = .ok (.iadd, 1) := by decide +kernel
theorem dX0_product_23 : decode cX0_product 23 = .ok (.bipush 45, 2) := by decide +kernel
theorem dX0_product_25 : decode cX0_product 25 = .ok (.iadd, 1) := by decide +kernel
theorem dX0_product_26 : decode cX0_product 26 = .ok (.istore 4, 2) := by decide +kernel
theorem dX0_product_28 : decode cX0_product 28 = .ok (.lload_n 0, 1) := by decide +kernel
theorem dX0_product_29 : decode cX0_product 29 = .ok (.invokestatic 171, 3) := by decide +kernel
theorem dX0_product_32 : decode cX0_product 32 = .ok (.lload_n 2, 1) := by decide +kernel
theorem dX0_product_33 : decode cX0_product 33 = .ok (.invokestatic 171, 3) := by decide +kernel
theorem dX0_product_36 : decode cX0_product 36 = .ok (.invokestatic 174, 3) := by decide +kernel
theorem dX0_product_39 : decode cX0_product 39 = .ok (.iload 4, 2) := by decide +kernel
theorem dX0_product_41 : decode cX0_product 41 = .ok (.invokestatic 36, 3) := by decide +kernel
theorem dX0_product_44 : decode cX0_product 44 = .ok (.lload_n 0, 1) := by decide +kernel
theorem dX0_product_45 : decode cX0_product 45 = .ok (.lload_n 2, 1) := by decide +kernel
theorem dX0_product_46 : decode cX0_product 46 = .ok (.lxor, 1) := by decide +kernel
theorem dX0_product_47 : decode cX0_product 47 = .ok (.invokestatic 40, 3) := by decide +kernel
theorem dX0_product_50 : decode cX0_product 50 = .ok (.lreturn, 1) := by decide +kernel
theorem dX0_topOfProduct_0 : decode cX0_topOfProduct 0 = .ok (.lload_n 0, 1) := by decide +kernel
theorem dX0_topOfProduct_1 : decode cX0_topOfProduct 1 = .ok (.bipush 27, 2) := by decide +kernel
theorem dX0_topOfProduct_3 : decode cX0_topOfProduct 3 = .ok (.lushr, 1) := by decide +kernel
theorem dX0_topOfProduct_4 : decode cX0_topOfProduct 4 = .ok (.lstore 4, 2) := by decide +kernel
theorem dX0_topOfProduct_6 : decode cX0_topOfProduct 6 = .ok (.lload_n 0, 1) := by decide +kernel
theorem dX0_topOfProduct_7 : decode cX0_topOfProduct 7 = .ok (.bipush 27, 2) := by decide +kernel
theorem dX0_topOfProduct_9 : decode cX0_topOfProduct 9 = .ok (.invokestatic 100, 3) := by decide +kernel
theorem dX0_topOfProduct_12 : decode cX0_topOfProduct 12 = .ok (.lstore 6, 2) := by decide +kernel
theorem dX0_topOfProduct_14 : decode cX0_topOfProduct 14 = .ok (.lload_n 2, 1) := by decide +kernel
theorem dX0_topOfProduct_15 : decode cX0_topOfProduct 15 = .ok (.bipush 27, 2) := by decide +kernel
theorem dX0_topOfProduct_17 : decode cX0_topOfProduct 17 = .ok (.lushr, 1) := by decide +kernel
theorem dX0_topOfProduct_18 : decode cX0_topOfProduct 18 = .ok (.lstore 8, 2) := by decide +kernel
theorem dX0_topOfProduct_20 : decode cX0_topOfProduct 20 = .ok (.lload_n 2, 1) := by decide +kernel
theorem dX0_topOfProduct_21 : decode cX0_topOfProduct 21 = .ok (.bipush 27, 2) := by decide +kernel
theorem dX0_topOfProduct_23 : decode cX0_topOfProduct 23 = .ok (.invokestatic 100, 3) := by decide +kernel
theorem dX0_topOfProduct_26 : decode cX0_topOfProduct 26 = .ok (.lstore 10, 2) := by decide +kernel
theorem dX0_topOfProduct_28 : decode cX0_topOfProduct 28 = .ok (.lload 4, 2) := by decide +kernel
theorem dX0_topOfProduct_30 : decode cX0_topOfProduct 30 = .ok (.lload 10, 2) := by decide +kernel
theorem dX0_topOfProduct_32 : decode cX0_topOfProduct 32 = .ok (.lmul, 1) := by decide +kernel
theorem dX0_topOfProduct_33 : decode cX0_topOfProduct 33 = .ok (.lload 6, 2) := by decide +kernel
theorem dX0_topOfProduct_35 : decode cX0_topOfProduct 35 = .ok (.lload 8, 2) := by decide +kernel
theorem dX0_topOfProduct_37 : decode cX0_topOfProduct 37 = .ok (.lmul, 1) := by decide +kernel
theorem dX0_topOfProduct_38 : decode cX0_topOfProduct 38 = .ok (.ladd, 1) := by decide +kernel
theorem dX0_topOfProduct_39 : decode cX0_topOfProduct 39 = .ok (.lstore 12, 2) := by decide +kernel
theorem dX0_topOfProduct_41 : decode cX0_topOfProduct 41 = .ok (.lload 6, 2) := by decide +kernel
theorem dX0_topOfProduct_43 : decode cX0_topOfProduct 43 = .ok (.lload 10, 2) := by decide +kernel
theorem dX0_topOfProduct_45 : decode cX0_topOfProduct 45 = .ok (.lmul, 1) := by decide +kernel
theorem dX0_topOfProduct_46 : decode cX0_topOfProduct 46 = .ok (.lload 12, 2) := by decide +kernel
theorem dX0_topOfProduct_48 : decode cX0_topOfProduct 48 = .ok (.bipush 27, 2) := by decide +kernel
theorem dX0_topOfProduct_50 : decode cX0_topOfProduct 50 = .ok (.invokestatic 100, 3) := by decide +kernel
theorem dX0_topOfProduct_53 : decode cX0_topOfProduct 53 = .ok (.bipush 27, 2) := by decide +kernel
theorem dX0_topOfProduct_55 : decode cX0_topOfProduct 55 = .ok (.lshl, 1) := by decide +kernel
theorem dX0_topOfProduct_56 : decode cX0_topOfProduct 56 = .ok (.ladd, 1) := by decide +kernel
theorem dX0_topOfProduct_57 : decode cX0_topOfProduct 57 = .ok (.lstore 14, 2) := by decide +kernel
theorem dX0_topOfProduct_59 : decode cX0_topOfProduct 59 = .ok (.lload 4, 2) := by decide +kernel
theorem dX0_topOfProduct_61 : decode cX0_topOfProduct 61 = .ok (.lload 8, 2) := by decide +kernel
theorem dX0_topOfProduct_63 : decode cX0_topOfProduct 63 = .ok (.lmul, 1) := by decide +kernel
theorem dX0_topOfProduct_64 : decode cX0_topOfProduct 64 = .ok (.lload 12, 2) := by decide +kernel
theorem dX0_topOfProduct_66 : decode cX0_topOfProduct 66 = .ok (.bipush 27, 2) := by decide +kernel
theorem dX0_topOfProduct_68 : decode cX0_topOfProduct 68 = .ok (.lushr, 1) := by decide +kernel
theorem dX0_topOfProduct_69 : decode cX0_topOfProduct 69 = .ok (.ladd, 1) := by decide +kernel
theorem dX0_topOfProduct_70 : decode cX0_topOfProduct 70 = .ok (.lload 14, 2) := by decide +kernel
theorem dX0_topOfProduct_72 : decode cX0_topOfProduct 72 = .ok (.bipush 54, 2) := by decide +kernel
theorem dX0_topOfProduct_74 : decode cX0_topOfProduct 74 = .ok (.lushr, 1) := by decide +kernel
theorem dX0_topOfProduct_75 : decode cX0_topOfProduct 75 = .ok (.ladd, 1) := by decide +kernel
theorem dX0_topOfProduct_76 : decode cX0_topOfProduct 76 = .ok (.lstore 16, 2) := by decide +kernel
theorem dX0_topOfProduct_78 : decode cX0_topOfProduct 78 = .ok (.lload 14, 2) := by decide +kernel
theorem dX0_topOfProduct_80 : decode cX0_topOfProduct 80 = .ok (.bipush 54, 2) := by decide +kernel
theorem dX0_topOfProduct_82 : decode cX0_topOfProduct 82 = .ok (.invokestatic 100, 3) := by decide +kernel
theorem dX0_topOfProduct_85 : decode cX0_topOfProduct 85 = .ok (.lstore 18, 2) := by decide +kernel
theorem dX0_topOfProduct_87 : decode cX0_topOfProduct 87 = .ok (.lload 16, 2) := by decide +kernel
theorem dX0_topOfProduct_89 : decode cX0_topOfProduct 89 = .ok (.bipush 9, 2) := by decide +kernel
theorem dX0_topOfProduct_91 : decode cX0_topOfProduct 91 = .ok (.lshl, 1) := by decide +kernel
theorem dX0_topOfProduct_92 : decode cX0_topOfProduct 92 = .ok (.lload 18, 2) := by decide +kernel
theorem dX0_topOfProduct_94 : decode cX0_topOfProduct 94 = .ok (.bipush 45, 2) := by decide +kernel
theorem dX0_topOfProduct_96 : decode cX0_topOfProduct 96 = .ok (.invokestatic 165, 3) := by decide +kernel
theorem dX0_topOfProduct_99 : decode cX0_topOfProduct 99 = .ok (.lor, 1) := by decide +kernel
theorem dX0_topOfProduct_100 : decode cX0_topOfProduct 100 = .ok (.lreturn, 1) := by decide +kernel
theorem dX0_isSmallProduct_0 : decode cX0_isSmallProduct 0 = .ok (.lload_n 0, 1) := by decide +kernel
theorem dX0_isSmallProduct_1 : decode cX0_isSmallProduct 1 = .ok (.lconst 0, 1) := by decide +kernel
theorem dX0_isSmallProduct_2 : decode cX0_isSmallProduct 2 = .ok (.lcmp, 1) := by decide +kernel
theorem dX0_isSmallProduct_3 : decode cX0_isSmallProduct 3 = .ok (.ifCond .eq 9, 3) := by decide +kernel
theorem dX0_isSmallProduct_6 : decode cX0_isSmallProduct 6 = .ok (.lload_n 2, 1) := by decide +kernel
theorem dX0_isSmallProduct_7 : decode cX0_isSmallProduct 7 = .ok (.lconst 0, 1) := by decide +kernel
theorem dX0_isSmallProduct_8 : decode cX0_isSmallProduct 8 = .ok (.lcmp, 1) := by decide +kernel
theorem dX0_isSmallProduct_9 : decode cX0_isSmallProduct 9 = .ok (.ifCond .ne 5, 3) := by decide +kernel
theorem dX0_isSmallProduct_12 : decode cX0_isSmallProduct 12 = .ok (.iconst 0, 1) := by decide +kernel
theorem dX0_isSmallProduct_13 : decode cX0_isSmallProduct 13 = .ok (.ireturn, 1) := by decide +kernel
theorem dX0_isSmallProduct_14 : decode cX0_isSmallProduct 14 = .ok (.lload_n 0, 1) := by decide +kernel
theorem dX0_isSmallProduct_15 : decode cX0_isSmallProduct 15 = .ok (.invokestatic 171, 3) := by decide +kernel
theorem dX0_isSmallProduct_18 : decode cX0_isSmallProduct 18 = .ok (.lload_n 2, 1) := by decide +kernel
theorem dX0_isSmallProduct_19 : decode cX0_isSmallProduct 19 = .ok (.invokestatic 171, 3) := by decide +kernel
theorem dX0_isSmallProduct_22 : decode cX0_isSmallProduct 22 = .ok (.invokestatic 174, 3) := by decide +kernel
theorem dX0_isSmallProduct_25 : decode cX0_isSmallProduct 25 = .ok (.lstore 4, 2) := by decide +kernel
theorem dX0_isSmallProduct_27 : decode cX0_isSmallProduct 27 = .ok (.bipush 63, 2) := by decide +kernel
theorem dX0_isSmallProduct_29 : decode cX0_isSmallProduct 29 = .ok (.lload 4, 2) := by decide +kernel
theorem dX0_isSmallProduct_31 : decode cX0_isSmallProduct 31 = .ok (.invokestatic 146, 3) := by decide +kernel
theorem dX0_isSmallProduct_34 : decode cX0_isSmallProduct 34 = .ok (.isub, 1) := by decide +kernel
theorem dX0_isSmallProduct_35 : decode cX0_isSmallProduct 35 = .ok (.istore 6, 2) := by decide +kernel
theorem dX0_isSmallProduct_37 : decode cX0_isSmallProduct 37 = .ok (.iload 6, 2) := by decide +kernel
theorem dX0_isSmallProduct_39 : decode cX0_isSmallProduct 39 = .ok (.bipush 45, 2) := by decide +kernel
theorem dX0_isSmallProduct_41 : decode cX0_isSmallProduct 41 = .ok (.iadd, 1) := by decide +kernel
theorem dX0_isSmallProduct_42 : decode cX0_isSmallProduct 42 = .ok (.lload_n 0, 1) := by decide +kernel
theorem dX0_isSmallProduct_43 : decode cX0_isSmallProduct 43 = .ok (.invokestatic 168, 3) := by decide +kernel
theorem dX0_isSmallProduct_46 : decode cX0_isSmallProduct 46 = .ok (.iadd, 1) := by decide +kernel
theorem dX0_isSmallProduct_47 : decode cX0_isSmallProduct 47 = .ok (.lload_n 2, 1) := by decide +kernel
theorem dX0_isSmallProduct_48 : decode cX0_isSmallProduct 48 = .ok (.invokestatic 168, 3) := by decide +kernel
theorem dX0_isSmallProduct_51 : decode cX0_isSmallProduct 51 = .ok (.iadd, 1) := by decide +kernel
theorem dX0_isSmallProduct_52 : decode cX0_isSmallProduct 52 = .ok (.sipush (-960), 3) := by decide +kernel
theorem dX0_isSmallProduct_55 : decode cX0_isSmallProduct 55 = .ok (.if_icmp .ge 7, 3) := by decide +kernel
theorem dX0_isSmallProduct_58 : decode cX0_isSmallProduct 58 = .ok (.iconst 1, 1) := by decide +kernel
theorem dX0_isSmallProduct_59 : decode cX0_isSmallProduct 59 = .ok (.goto 4, 3) := by decide +kernel
theorem dX0_isSmallProduct_62 : decode cX0_isSmallProduct 62 = .ok (.iconst 0, 1) := by decide +kernel
theorem dX0_isSmallProduct_63 : decode cX0_isSmallProduct 63 = .ok (.ireturn, 1) := by decide +kernel
theorem dX0_productError_0 : decode cX0_productError 0 = .ok (.lload_n 0, 1) := by decide +kernel
theorem dX0_productError_1 : decode cX0_productError 1 = .ok (.lload_n 2, 1) := by decide +kernel
theorem dX0_productError_2 : decode cX0_productError 2 = .ok (.invokestatic 112, 3) := by decide +kernel
theorem dX0_productError_5 : decode cX0_productError 5 = .ok (.lstore 4, 2) := by decide +kernel
theorem dX0_productError_7 : decode cX0_productError 7 = .ok (.lload 4, 2) := by decide +kernel
theorem dX0_productError_9 : decode cX0_productError 9 = .ok (.lconst 0, 1) := by decide +kernel
theorem dX0_productError_10 : decode cX0_productError 10 = .ok (.lcmp, 1) := by decide +kernel
theorem dX0_productError_11 : decode cX0_productError 11 = .ok (.ifCond .eq 11, 3) := by decide +kernel
theorem dX0_productError_14 : decode cX0_productError 14 = .ok (.lload 4, 2) := by decide +kernel
theorem dX0_productError_16 : decode cX0_productError 16 = .ok (.invokestatic 67, 3) := by decide +kernel
theorem dX0_productError_19 : decode cX0_productError 19 = .ok (.ifCond .eq 6, 3) := by decide +kernel
theorem dX0_productError_22 : decode cX0_productError 22 = .ok (.lload 4, 2) := by decide +kernel
theorem dX0_productError_24 : decode cX0_productError 24 = .ok (.lreturn, 1) := by decide +kernel
theorem dX0_productError_25 : decode cX0_productError 25 = .ok (.lload_n 0, 1) := by decide +kernel
theorem dX0_productError_26 : decode cX0_productError 26 = .ok (.invokestatic 168, 3) := by decide +kernel
theorem dX0_productError_29 : decode cX0_productError 29 = .ok (.lload_n 2, 1) := by decide +kernel
theorem dX0_productError_30 : decode cX0_productError 30 = .ok (.invokestatic 168, 3) := by decide +kernel
theorem dX0_productError_33 : decode cX0_productError 33 = .ok (.iadd, 1) := by decide +kernel
theorem dX0_productError_34 : decode cX0_productError 34 = .ok (.istore 6, 2) := by decide +kernel
theorem dX0_productError_36 : decode cX0_productError 36 = .ok (.lload_n 0, 1) := by decide +kernel
theorem dX0_productError_37 : decode cX0_productError 37 = .ok (.invokestatic 171, 3) := by decide +kernel
theorem dX0_productError_40 : decode cX0_productError 40 = .ok (.lload_n 2, 1) := by decide +kernel
theorem dX0_productError_41 : decode cX0_productError 41 = .ok (.invokestatic 171, 3) := by decide +kernel
theorem dX0_productError_44 : decode cX0_productError 44 = .ok (.lmul, 1) := by decide +kernel
theorem dX0_productError_45 : decode cX0_productError 45 = .ok (.lstore 7, 2) := by decide +kernel
theorem dX0_productError_47 : decode cX0_productError 47 = .ok (.lload 7, 2) := by decide +kernel
theorem dX0_productError_49 : decode cX0_productError 49 = .ok (.lload 4, 2) := by decide +kernel
theorem dX0_productError_51 : decode cX0_productError 51 = .ok (.invokestatic 76, 3) := by decide +kernel
theorem dX0_productError_54 : decode cX0_productError 54 = .ok (.lload 4, 2) := by decide +kernel
theorem dX0_productError_56 : decode cX0_productError 56 = .ok (.invokestatic 79, 3) := by decide +kernel
theorem dX0_productError_59 : decode cX0_productError 59 = .ok (.iload 6, 2) := by decide +kernel
theorem dX0_productError_61 : decode cX0_productError 61 = .ok (.isub, 1) := by decide +kernel
theorem dX0_productError_62 : decode cX0_productError 62 = .ok (.lshl, 1) := by decide +kernel
theorem dX0_productError_63 : decode cX0_productError 63 = .ok (.lsub, 1) := by decide +kernel
theorem dX0_productError_64 : decode cX0_productError 64 = .ok (.lstore 9, 2) := by decide +kernel
theorem dX0_productError_66 : decode cX0_productError 66 = .ok (.lload 9, 2) := by decide +kernel
theorem dX0_productError_68 : decode cX0_productError 68 = .ok (.invokestatic 30, 3) := by decide +kernel
theorem dX0_productError_71 : decode cX0_productError 71 = .ok (.iload 6, 2) := by decide +kernel
theorem dX0_productError_73 : decode cX0_productError 73 = .ok (.invokestatic 36, 3) := by decide +kernel
theorem dX0_productError_76 : decode cX0_productError 76 = .ok (.lload 9, 2) := by decide +kernel
theorem dX0_productError_78 : decode cX0_productError 78 = .ok (.lload 4, 2) := by decide +kernel
theorem dX0_productError_80 : decode cX0_productError 80 = .ok (.lxor, 1) := by decide +kernel
theorem dX0_productError_81 : decode cX0_productError 81 = .ok (.invokestatic 40, 3) := by decide +kernel
theorem dX0_productError_84 : decode cX0_productError 84 = .ok (.lreturn, 1) := by decide +kernel
theorem dX0_quotient_0 : decode cX0_quotient 0 = .ok (.lload_n 2, 1) := by decide +kernel
theorem dX0_quotient_1 : decode cX0_quotient 1 = .ok (.invokestatic 171, 3) := by decide +kernel
theorem dX0_quotient_4 : decode cX0_quotient 4 = .ok (.lstore 4, 2) := by decide +kernel
theorem dX0_quotient_6 : decode cX0_quotient 6 = .ok (.lload 4, 2) := by decide +kernel
theorem dX0_quotient_8 : decode cX0_quotient 8 = .ok (.lconst 0, 1) := by decide +kernel
theorem dX0_quotient_9 : decode cX0_quotient 9 = .ok (.lcmp, 1) := by decide +kernel
theorem dX0_quotient_10 : decode cX0_quotient 10 = .ok (.ifCond .ne 7, 3) := by decide +kernel
theorem dX0_quotient_13 : decode cX0_quotient 13 = .ok (.ldc2_w 140, 3) := by decide +kernel
theorem dX0_quotient_16 : decode cX0_quotient 16 = .ok (.lreturn, 1) := by decide +kernel
theorem dX0_quotient_17 : decode cX0_quotient 17 = .ok (.lload_n 0, 1) := by decide +kernel
theorem dX0_quotient_18 : decode cX0_quotient 18 = .ok (.invokestatic 171, 3) := by decide +kernel
theorem dX0_quotient_21 : decode cX0_quotient 21 = .ok (.lload 4, 2) := by decide +kernel
theorem dX0_quotient_23 : decode cX0_quotient 23 = .ok (.ldiv, 1) := by decide +kernel
theorem dX0_quotient_24 : decode cX0_quotient 24 = .ok (.lstore 6, 2) := by decide +kernel
theorem dX0_quotient_26 : decode cX0_quotient 26 = .ok (.lload_n 0, 1) := by decide +kernel
theorem dX0_quotient_27 : decode cX0_quotient 27 = .ok (.invokestatic 171, 3) := by decide +kernel
theorem dX0_quotient_30 : decode cX0_quotient 30 = .ok (.lload 4, 2) := by decide +kernel
theorem dX0_quotient_32 : decode cX0_quotient 32 = .ok (.lrem, 1) := by decide +kernel
theorem dX0_quotient_33 : decode cX0_quotient 33 = .ok (.lstore 8, 2) := by decide +kernel
theorem dX0_quotient_35 : decode cX0_quotient 35 = .ok (.iconst 0, 1) := by decide +kernel
theorem dX0_quotient_36 : decode cX0_quotient 36 = .ok (.istore 10, 2) := by decide +kernel
theorem dX0_quotient_38 : decode cX0_quotient 38 = .ok (.iload 10, 2) := by decide +kernel
theorem dX0_quotient_40 : decode cX0_quotient 40 = .ok (.bipush 6, 2) := by decide +kernel
theorem dX0_quotient_42 : decode cX0_quotient 42 = .ok (.if_icmp .ge 36, 3) := by decide +kernel
theorem dX0_quotient_45 : decode cX0_quotient 45 = .ok (.lload 8, 2) := by decide +kernel
theorem dX0_quotient_47 : decode cX0_quotient 47 = .ok (.bipush 10, 2) := by decide +kernel
theorem dX0_quotient_49 : decode cX0_quotient 49 = .ok (.lshl, 1) := by decide +kernel
theorem dX0_quotient_50 : decode cX0_quotient 50 = .ok (.lstore 8, 2) := by decide +kernel
theorem dX0_quotient_52 : decode cX0_quotient 52 = .ok (.lload 6, 2) := by decide +kernel
theorem dX0_quotient_54 : decode cX0_quotient 54 = .ok (.bipush 10, 2) := by decide +kernel
theorem dX0_quotient_56 : decode cX0_quotient 56 = .ok (.lshl, 1) := by decide +kernel
theorem dX0_quotient_57 : decode cX0_quotient 57 = .ok (.lload 8, 2) := by decide +kernel
theorem dX0_quotient_59 : decode cX0_quotient 59 = .ok (.lload 4, 2) := by decide +kernel
theorem dX0_quotient_61 : decode cX0_quotient 61 = .ok (.ldiv, 1) := by decide +kernel
theorem dX0_quotient_62 : decode cX0_quotient 62 = .ok (.lor, 1) := by decide +kernel
theorem dX0_quotient_63 : decode cX0_quotient 63 = .ok (.lstore 6, 2) := by decide +kernel
theorem dX0_quotient_65 : decode cX0_quotient 65 = .ok (.lload 8, 2) := by decide +kernel
theorem dX0_quotient_67 : decode cX0_quotient 67 = .ok (.lload 4, 2) := by decide +kernel
theorem dX0_quotient_69 : decode cX0_quotient 69 = .ok (.lrem, 1) := by decide +kernel
theorem dX0_quotient_70 : decode cX0_quotient 70 = .ok (.lstore 8, 2) := by decide +kernel
theorem dX0_quotient_72 : decode cX0_quotient 72 = .ok (.iinc 10 1, 3) := by decide +kernel
theorem dX0_quotient_75 : decode cX0_quotient 75 = .ok (.goto (-37), 3) := by decide +kernel
theorem dX0_quotient_78 : decode cX0_quotient 78 = .ok (.lload 8, 2) := by decide +kernel
theorem dX0_quotient_80 : decode cX0_quotient 80 = .ok (.lconst 0, 1) := by decide +kernel
theorem dX0_quotient_81 : decode cX0_quotient 81 = .ok (.lcmp, 1) := by decide +kernel
theorem dX0_quotient_82 : decode cX0_quotient 82 = .ok (.ifCond .ne 8, 3) := by decide +kernel
theorem dX0_quotient_85 : decode cX0_quotient 85 = .ok (.lload 6, 2) := by decide +kernel
theorem dX0_quotient_87 : decode cX0_quotient 87 = .ok (.goto 7, 3) := by decide +kernel
theorem dX0_quotient_90 : decode cX0_quotient 90 = .ok (.lload 6, 2) := by decide +kernel
theorem dX0_quotient_92 : decode cX0_quotient 92 = .ok (.lconst 1, 1) := by decide +kernel
theorem dX0_quotient_93 : decode cX0_quotient 93 = .ok (.lor, 1) := by decide +kernel
theorem dX0_quotient_94 : decode cX0_quotient 94 = .ok (.lstore 10, 2) := by decide +kernel
theorem dX0_quotient_96 : decode cX0_quotient 96 = .ok (.lload_n 0, 1) := by decide +kernel
theorem dX0_quotient_97 : decode cX0_quotient 97 = .ok (.invokestatic 168, 3) := by decide +kernel
theorem dX0_quotient_100 : decode cX0_quotient 100 = .ok (.lload_n 2, 1) := by decide +kernel
theorem dX0_quotient_101 : decode cX0_quotient 101 = .ok (.invokestatic 168, 3) := by decide +kernel
theorem dX0_quotient_104 : decode cX0_quotient 104 = .ok (.isub, 1) := by decide +kernel
theorem dX0_quotient_105 : decode cX0_quotient 105 = .ok (.bipush 60, 2) := by decide +kernel
theorem dX0_quotient_107 : decode cX0_quotient 107 = .ok (.isub, 1) := by decide +kernel
theorem dX0_quotient_108 : decode cX0_quotient 108 = .ok (.istore 12, 2) := by decide +kernel
theorem dX0_quotient_110 : decode cX0_quotient 110 = .ok (.lload 10, 2) := by decide +kernel
theorem dX0_quotient_112 : decode cX0_quotient 112 = .ok (.iload 12, 2) := by decide +kernel
theorem dX0_quotient_114 : decode cX0_quotient 114 = .ok (.invokestatic 36, 3) := by decide +kernel
theorem dX0_quotient_117 : decode cX0_quotient 117 = .ok (.lload_n 0, 1) := by decide +kernel
theorem dX0_quotient_118 : decode cX0_quotient 118 = .ok (.lload_n 2, 1) := by decide +kernel
theorem dX0_quotient_119 : decode cX0_quotient 119 = .ok (.lxor, 1) := by decide +kernel
theorem dX0_quotient_120 : decode cX0_quotient 120 = .ok (.invokestatic 40, 3) := by decide +kernel
theorem dX0_quotient_123 : decode cX0_quotient 123 = .ok (.lreturn, 1) := by decide +kernel
theorem dX0_rest_0 : decode cX0_rest 0 = .ok (.lload_n 2, 1) := by decide +kernel
theorem dX0_rest_1 : decode cX0_rest 1 = .ok (.invokestatic 76, 3) := by decide +kernel
theorem dX0_rest_4 : decode cX0_rest 4 = .ok (.lstore 4, 2) := by decide +kernel
theorem dX0_rest_6 : decode cX0_rest 6 = .ok (.lload 4, 2) := by decide +kernel
theorem dX0_rest_8 : decode cX0_rest 8 = .ok (.lconst 0, 1) := by decide +kernel
theorem dX0_rest_9 : decode cX0_rest 9 = .ok (.lcmp, 1) := by decide +kernel
theorem dX0_rest_10 : decode cX0_rest 10 = .ok (.ifCond .eq 15, 3) := by decide +kernel
theorem dX0_rest_13 : decode cX0_rest 13 = .ok (.lload_n 0, 1) := by decide +kernel
theorem dX0_rest_14 : decode cX0_rest 14 = .ok (.invokestatic 30, 3) := by decide +kernel
theorem dX0_rest_17 : decode cX0_rest 17 = .ok (.lload_n 2, 1) := by decide +kernel
theorem dX0_rest_18 : decode cX0_rest 18 = .ok (.invokestatic 30, 3) := by decide +kernel
theorem dX0_rest_21 : decode cX0_rest 21 = .ok (.lcmp, 1) := by decide +kernel
theorem dX0_rest_22 : decode cX0_rest 22 = .ok (.ifCond .ge 5, 3) := by decide +kernel
theorem dX0_rest_25 : decode cX0_rest 25 = .ok (.lload_n 0, 1) := by decide +kernel
theorem dX0_rest_26 : decode cX0_rest 26 = .ok (.lreturn, 1) := by decide +kernel
theorem dX0_rest_27 : decode cX0_rest 27 = .ok (.lload_n 0, 1) := by decide +kernel
theorem dX0_rest_28 : decode cX0_rest 28 = .ok (.invokestatic 76, 3) := by decide +kernel
theorem dX0_rest_31 : decode cX0_rest 31 = .ok (.lload 4, 2) := by decide +kernel
theorem dX0_rest_33 : decode cX0_rest 33 = .ok (.lrem, 1) := by decide +kernel
theorem dX0_rest_34 : decode cX0_rest 34 = .ok (.lstore 6, 2) := by decide +kernel
theorem dX0_rest_36 : decode cX0_rest 36 = .ok (.lload_n 0, 1) := by decide +kernel
theorem dX0_rest_37 : decode cX0_rest 37 = .ok (.invokestatic 79, 3) := by decide +kernel
theorem dX0_rest_40 : decode cX0_rest 40 = .ok (.lload_n 2, 1) := by decide +kernel
theorem dX0_rest_41 : decode cX0_rest 41 = .ok (.invokestatic 79, 3) := by decide +kernel
theorem dX0_rest_44 : decode cX0_rest 44 = .ok (.isub, 1) := by decide +kernel
theorem dX0_rest_45 : decode cX0_rest 45 = .ok (.istore 8, 2) := by decide +kernel
theorem dX0_rest_47 : decode cX0_rest 47 = .ok (.iload 8, 2) := by decide +kernel
theorem dX0_rest_49 : decode cX0_rest 49 = .ok (.ifCond .le 24, 3) := by decide +kernel
theorem dX0_rest_52 : decode cX0_rest 52 = .ok (.lload 6, 2) := by decide +kernel
theorem dX0_rest_54 : decode cX0_rest 54 = .ok (.iload 8, 2) := by decide +kernel
theorem dX0_rest_56 : decode cX0_rest 56 = .ok (.bipush 10, 2) := by decide +kernel
theorem dX0_rest_58 : decode cX0_rest 58 = .ok (.invokestatic 96, 3) := by decide +kernel
theorem dX0_rest_61 : decode cX0_rest 61 = .ok (.lshl, 1) := by decide +kernel
theorem dX0_rest_62 : decode cX0_rest 62 = .ok (.lload 4, 2) := by decide +kernel
theorem dX0_rest_64 : decode cX0_rest 64 = .ok (.lrem, 1) := by decide +kernel
theorem dX0_rest_65 : decode cX0_rest 65 = .ok (.lstore 6, 2) := by decide +kernel
theorem dX0_rest_67 : decode cX0_rest 67 = .ok (.iinc 8 (-10), 3) := by decide +kernel
theorem dX0_rest_70 : decode cX0_rest 70 = .ok (.goto (-23), 3) := by decide +kernel
theorem dX0_rest_73 : decode cX0_rest 73 = .ok (.lload 6, 2) := by decide +kernel
theorem dX0_rest_75 : decode cX0_rest 75 = .ok (.lload_n 2, 1) := by decide +kernel
theorem dX0_rest_76 : decode cX0_rest 76 = .ok (.invokestatic 79, 3) := by decide +kernel
theorem dX0_rest_79 : decode cX0_rest 79 = .ok (.invokestatic 36, 3) := by decide +kernel
theorem dX0_rest_82 : decode cX0_rest 82 = .ok (.lload_n 0, 1) := by decide +kernel
theorem dX0_rest_83 : decode cX0_rest 83 = .ok (.invokestatic 40, 3) := by decide +kernel
theorem dX0_rest_86 : decode cX0_rest 86 = .ok (.lreturn, 1) := by decide +kernel
theorem dX0_root_0 : decode cX0_root 0 = .ok (.lload_n 0, 1) := by decide +kernel
theorem dX0_root_1 : decode cX0_root 1 = .ok (.lconst 0, 1) := by decide +kernel
theorem dX0_root_2 : decode cX0_root 2 = .ok (.lcmp, 1) := by decide +kernel
theorem dX0_root_3 : decode cX0_root 3 = .ok (.ifCond .ne 5, 3) := by decide +kernel
theorem dX0_root_6 : decode cX0_root 6 = .ok (.lconst 0, 1) := by decide +kernel
theorem dX0_root_7 : decode cX0_root 7 = .ok (.lreturn, 1) := by decide +kernel
theorem dX0_root_8 : decode cX0_root 8 = .ok (.lload_n 0, 1) := by decide +kernel
theorem dX0_root_9 : decode cX0_root 9 = .ok (.invokestatic 168, 3) := by decide +kernel
theorem dX0_root_12 : decode cX0_root 12 = .ok (.iconst 1, 1) := by decide +kernel
theorem dX0_root_13 : decode cX0_root 13 = .ok (.iand, 1) := by decide +kernel
theorem dX0_root_14 : decode cX0_root 14 = .ok (.istore_n 2, 1) := by decide +kernel
theorem dX0_root_15 : decode cX0_root 15 = .ok (.lload_n 0, 1) := by decide +kernel
theorem dX0_root_16 : decode cX0_root 16 = .ok (.invokestatic 171, 3) := by decide +kernel
theorem dX0_root_19 : decode cX0_root 19 = .ok (.iload_n 2, 1) := by decide +kernel
theorem dX0_root_20 : decode cX0_root 20 = .ok (.lshl, 1) := by decide +kernel
theorem dX0_root_21 : decode cX0_root 21 = .ok (.lstore_n 3, 1) := by decide +kernel
theorem dX0_root_22 : decode cX0_root 22 = .ok (.lload_n 0, 1) := by decide +kernel
theorem dX0_root_23 : decode cX0_root 23 = .ok (.invokestatic 168, 3) := by decide +kernel
theorem dX0_root_26 : decode cX0_root 26 = .ok (.iload_n 2, 1) := by decide +kernel
theorem dX0_root_27 : decode cX0_root 27 = .ok (.isub, 1) := by decide +kernel
theorem dX0_root_28 : decode cX0_root 28 = .ok (.istore 5, 2) := by decide +kernel
theorem dX0_root_30 : decode cX0_root 30 = .ok (.lconst 0, 1) := by decide +kernel
theorem dX0_root_31 : decode cX0_root 31 = .ok (.lstore 6, 2) := by decide +kernel
theorem dX0_root_33 : decode cX0_root 33 = .ok (.lconst 0, 1) := by decide +kernel
theorem dX0_root_34 : decode cX0_root 34 = .ok (.lstore 8, 2) := by decide +kernel
theorem dX0_root_36 : decode cX0_root 36 = .ok (.iconst 1, 1) := by decide +kernel
theorem dX0_root_37 : decode cX0_root 37 = .ok (.istore 10, 2) := by decide +kernel
theorem dX0_root_39 : decode cX0_root 39 = .ok (.iload 10, 2) := by decide +kernel
theorem dX0_root_41 : decode cX0_root 41 = .ok (.bipush 56, 2) := by decide +kernel
theorem dX0_root_43 : decode cX0_root 43 = .ok (.if_icmp .gt 79, 3) := by decide +kernel
theorem dX0_root_46 : decode cX0_root 46 = .ok (.iload 10, 2) := by decide +kernel
theorem dX0_root_48 : decode cX0_root 48 = .ok (.bipush 27, 2) := by decide +kernel
theorem dX0_root_50 : decode cX0_root 50 = .ok (.if_icmp .gt 19, 3) := by decide +kernel
theorem dX0_root_53 : decode cX0_root 53 = .ok (.lload_n 3, 1) := by decide +kernel
theorem dX0_root_54 : decode cX0_root 54 = .ok (.iconst 2, 1) := by decide +kernel
theorem dX0_root_55 : decode cX0_root 55 = .ok (.bipush 27, 2) := by decide +kernel
theorem dX0_root_57 : decode cX0_root 57 = .ok (.iload 10, 2) := by decide +kernel
theorem dX0_root_59 : decode cX0_root 59 = .ok (.isub, 1) := by decide +kernel
theorem dX0_root_60 : decode cX0_root 60 = .ok (.imul, 1) := by decide +kernel
theorem dX0_root_61 : decode cX0_root 61 = .ok (.lushr, 1) := by decide +kernel
theorem dX0_root_62 : decode cX0_root 62 = .ok (.iconst 2, 1) := by decide +kernel
theorem dX0_root_63 : decode cX0_root 63 = .ok (.invokestatic 100, 3) := by decide +kernel
theorem dX0_root_66 : decode cX0_root 66 = .ok (.goto 4, 3) := by decide +kernel
theorem dX0_root_69 : decode cX0_root 69 = .ok (.lconst 0, 1) := by decide +kernel
