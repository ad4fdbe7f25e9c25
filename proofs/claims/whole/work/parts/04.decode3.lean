theorem dX2_exactSum_158 : decode cX2_exactSum 158 = .ok (.ifCond .lt 21, 3) := by decide +kernel
theorem dX2_exactSum_161 : decode cX2_exactSum 161 = .ok (.aload_n 0, 1) := by decide +kernel
theorem dX2_exactSum_162 : decode cX2_exactSum 162 = .ok (.getfield 24, 3) := by decide +kernel
theorem dX2_exactSum_165 : decode cX2_exactSum 165 = .ok (.aload_n 0, 1) := by decide +kernel
theorem dX2_exactSum_166 : decode cX2_exactSum 166 = .ok (.getfield 28, 3) := by decide +kernel
theorem dX2_exactSum_169 : decode cX2_exactSum 169 = .ok (.invokevirtual 106, 3) := by decide +kernel
theorem dX2_exactSum_172 : decode cX2_exactSum 172 = .ok (.aload_n 0, 1) := by decide +kernel
theorem dX2_exactSum_173 : decode cX2_exactSum 173 = .ok (.getfield 7, 3) := by decide +kernel
theorem dX2_exactSum_176 : decode cX2_exactSum 176 = .ok (.iload_n 1, 1) := by decide +kernel
theorem dX2_exactSum_177 : decode cX2_exactSum 177 = .ok (.baload, 1) := by decide +kernel
theorem dX2_exactSum_178 : decode cX2_exactSum 178 = .ok (.ireturn, 1) := by decide +kernel
theorem dX2_exactSum_179 : decode cX2_exactSum 179 = .ok (.aload_n 0, 1) := by decide +kernel
theorem dX2_exactSum_180 : decode cX2_exactSum 180 = .ok (.invokevirtual 109, 3) := by decide +kernel
theorem dX2_exactSum_183 : decode cX2_exactSum 183 = .ok (.aload_n 0, 1) := by decide +kernel
theorem dX2_exactSum_184 : decode cX2_exactSum 184 = .ok (.getfield 24, 3) := by decide +kernel
theorem dX2_exactSum_187 : decode cX2_exactSum 187 = .ok (.aload_n 0, 1) := by decide +kernel
theorem dX2_exactSum_188 : decode cX2_exactSum 188 = .ok (.getfield 28, 3) := by decide +kernel
theorem dX2_exactSum_191 : decode cX2_exactSum 191 = .ok (.invokevirtual 106, 3) := by decide +kernel
theorem dX2_exactSum_194 : decode cX2_exactSum 194 = .ok (.iload 5, 2) := by decide +kernel
theorem dX2_exactSum_196 : decode cX2_exactSum 196 = .ok (.ireturn, 1) := by decide +kernel
theorem dX2_swap_0 : decode cX2_swap 0 = .ok (.iconst 0, 1) := by decide +kernel
theorem dX2_swap_1 : decode cX2_swap 1 = .ok (.istore_n 1, 1) := by decide +kernel
theorem dX2_swap_2 : decode cX2_swap 2 = .ok (.iload_n 1, 1) := by decide +kernel
theorem dX2_swap_3 : decode cX2_swap 3 = .ok (.sipush 140, 3) := by decide +kernel
theorem dX2_swap_6 : decode cX2_swap 6 = .ok (.if_icmp .ge 47, 3) := by decide +kernel
theorem dX2_swap_9 : decode cX2_swap 9 = .ok (.aload_n 0, 1) := by decide +kernel
theorem dX2_swap_10 : decode cX2_swap 10 = .ok (.getfield 24, 3) := by decide +kernel
theorem dX2_swap_13 : decode cX2_swap 13 = .ok (.getfield 112, 3) := by decide +kernel
theorem dX2_swap_16 : decode cX2_swap 16 = .ok (.iload_n 1, 1) := by decide +kernel
theorem dX2_swap_17 : decode cX2_swap 17 = .ok (.iaload, 1) := by decide +kernel
theorem dX2_swap_18 : decode cX2_swap 18 = .ok (.istore_n 2, 1) := by decide +kernel
theorem dX2_swap_19 : decode cX2_swap 19 = .ok (.aload_n 0, 1) := by decide +kernel
theorem dX2_swap_20 : decode cX2_swap 20 = .ok (.getfield 24, 3) := by decide +kernel
theorem dX2_swap_23 : decode cX2_swap 23 = .ok (.getfield 112, 3) := by decide +kernel
theorem dX2_swap_26 : decode cX2_swap 26 = .ok (.iload_n 1, 1) := by decide +kernel
theorem dX2_swap_27 : decode cX2_swap 27 = .ok (.aload_n 0, 1) := by decide +kernel
theorem dX2_swap_28 : decode cX2_swap 28 = .ok (.getfield 28, 3) := by decide +kernel
theorem dX2_swap_31 : decode cX2_swap 31 = .ok (.getfield 112, 3) := by decide +kernel
theorem dX2_swap_34 : decode cX2_swap 34 = .ok (.iload_n 1, 1) := by decide +kernel
theorem dX2_swap_35 : decode cX2_swap 35 = .ok (.iaload, 1) := by decide +kernel
theorem dX2_swap_36 : decode cX2_swap 36 = .ok (.iastore, 1) := by decide +kernel
theorem dX2_swap_37 : decode cX2_swap 37 = .ok (.aload_n 0, 1) := by decide +kernel
theorem dX2_swap_38 : decode cX2_swap 38 = .ok (.getfield 28, 3) := by decide +kernel
theorem dX2_swap_41 : decode cX2_swap 41 = .ok (.getfield 112, 3) := by decide +kernel
theorem dX2_swap_44 : decode cX2_swap 44 = .ok (.iload_n 1, 1) := by decide +kernel
theorem dX2_swap_45 : decode cX2_swap 45 = .ok (.iload_n 2, 1) := by decide +kernel
theorem dX2_swap_46 : decode cX2_swap 46 = .ok (.iastore, 1) := by decide +kernel
theorem dX2_swap_47 : decode cX2_swap 47 = .ok (.iinc 1 1, 3) := by decide +kernel
theorem dX2_swap_50 : decode cX2_swap 50 = .ok (.goto (-48), 3) := by decide +kernel
theorem dX2_swap_53 : decode cX2_swap 53 = .ok (.return_, 1) := by decide +kernel
theorem dX2_sum_0 : decode cX2_sum 0 = .ok (.aload_n 0, 1) := by decide +kernel
theorem dX2_sum_1 : decode cX2_sum 1 = .ok (.iload_n 1, 1) := by decide +kernel
theorem dX2_sum_2 : decode cX2_sum 2 = .ok (.iload_n 2, 1) := by decide +kernel
theorem dX2_sum_3 : decode cX2_sum 3 = .ok (.iload_n 3, 1) := by decide +kernel
theorem dX2_sum_4 : decode cX2_sum 4 = .ok (.invokevirtual 115, 3) := by decide +kernel
theorem dX2_sum_7 : decode cX2_sum 7 = .ok (.istore 4, 2) := by decide +kernel
theorem dX2_sum_9 : decode cX2_sum 9 = .ok (.aload_n 0, 1) := by decide +kernel
theorem dX2_sum_10 : decode cX2_sum 10 = .ok (.iload 4, 2) := by decide +kernel
theorem dX2_sum_12 : decode cX2_sum 12 = .ok (.aload_n 0, 1) := by decide +kernel
theorem dX2_sum_13 : decode cX2_sum 13 = .ok (.getfield 17, 3) := by decide +kernel
theorem dX2_sum_16 : decode cX2_sum 16 = .ok (.iload_n 1, 1) := by decide +kernel
theorem dX2_sum_17 : decode cX2_sum 17 = .ok (.iaload, 1) := by decide +kernel
theorem dX2_sum_18 : decode cX2_sum 18 = .ok (.aload_n 0, 1) := by decide +kernel
theorem dX2_sum_19 : decode cX2_sum 19 = .ok (.getfield 17, 3) := by decide +kernel
theorem dX2_sum_22 : decode cX2_sum 22 = .ok (.iload_n 2, 1) := by decide +kernel
theorem dX2_sum_23 : decode cX2_sum 23 = .ok (.iaload, 1) := by decide +kernel
theorem dX2_sum_24 : decode cX2_sum 24 = .ok (.if_icmp .ge 12, 3) := by decide +kernel
theorem dX2_sum_27 : decode cX2_sum 27 = .ok (.aload_n 0, 1) := by decide +kernel
theorem dX2_sum_28 : decode cX2_sum 28 = .ok (.getfield 17, 3) := by decide +kernel
theorem dX2_sum_31 : decode cX2_sum 31 = .ok (.iload_n 1, 1) := by decide +kernel
theorem dX2_sum_32 : decode cX2_sum 32 = .ok (.iaload, 1) := by decide +kernel
theorem dX2_sum_33 : decode cX2_sum 33 = .ok (.goto 9, 3) := by decide +kernel
theorem dX2_sum_36 : decode cX2_sum 36 = .ok (.aload_n 0, 1) := by decide +kernel
theorem dX2_sum_37 : decode cX2_sum 37 = .ok (.getfield 17, 3) := by decide +kernel
theorem dX2_sum_40 : decode cX2_sum 40 = .ok (.iload_n 2, 1) := by decide +kernel
theorem dX2_sum_41 : decode cX2_sum 41 = .ok (.iaload, 1) := by decide +kernel
theorem dX2_sum_42 : decode cX2_sum 42 = .ok (.iconst 0, 1) := by decide +kernel
theorem dX2_sum_43 : decode cX2_sum 43 = .ok (.invokevirtual 83, 3) := by decide +kernel
theorem dX2_sum_46 : decode cX2_sum 46 = .ok (.ireturn, 1) := by decide +kernel
theorem dX2_product_0 : decode cX2_product 0 = .ok (.aload_n 0, 1) := by decide +kernel
theorem dX2_product_1 : decode cX2_product 1 = .ok (.getfield 24, 3) := by decide +kernel
theorem dX2_product_4 : decode cX2_product 4 = .ok (.aload_n 0, 1) := by decide +kernel
theorem dX2_product_5 : decode cX2_product 5 = .ok (.getfield 13, 3) := by decide +kernel
theorem dX2_product_8 : decode cX2_product 8 = .ok (.iload_n 1, 1) := by decide +kernel
theorem dX2_product_9 : decode cX2_product 9 = .ok (.laload, 1) := by decide +kernel
theorem dX2_product_10 : decode cX2_product 10 = .ok (.aload_n 0, 1) := by decide +kernel
theorem dX2_product_11 : decode cX2_product 11 = .ok (.getfield 13, 3) := by decide +kernel
theorem dX2_product_14 : decode cX2_product 14 = .ok (.iload_n 2, 1) := by decide +kernel
theorem dX2_product_15 : decode cX2_product 15 = .ok (.laload, 1) := by decide +kernel
theorem dX2_product_16 : decode cX2_product 16 = .ok (.invokevirtual 119, 3) := by decide +kernel
theorem dX2_product_19 : decode cX2_product 19 = .ok (.aload_n 0, 1) := by decide +kernel
theorem dX2_product_20 : decode cX2_product 20 = .ok (.aload_n 0, 1) := by decide +kernel
theorem dX2_product_21 : decode cX2_product 21 = .ok (.getfield 7, 3) := by decide +kernel
theorem dX2_product_24 : decode cX2_product 24 = .ok (.iload_n 1, 1) := by decide +kernel
theorem dX2_product_25 : decode cX2_product 25 = .ok (.baload, 1) := by decide +kernel
theorem dX2_product_26 : decode cX2_product 26 = .ok (.aload_n 0, 1) := by decide +kernel
theorem dX2_product_27 : decode cX2_product 27 = .ok (.getfield 7, 3) := by decide +kernel
theorem dX2_product_30 : decode cX2_product 30 = .ok (.iload_n 2, 1) := by decide +kernel
theorem dX2_product_31 : decode cX2_product 31 = .ok (.baload, 1) := by decide +kernel
theorem dX2_product_32 : decode cX2_product 32 = .ok (.if_icmp .eq 7, 3) := by decide +kernel
theorem dX2_product_35 : decode cX2_product 35 = .ok (.iconst 1, 1) := by decide +kernel
theorem dX2_product_36 : decode cX2_product 36 = .ok (.goto 4, 3) := by decide +kernel
theorem dX2_product_39 : decode cX2_product 39 = .ok (.iconst 0, 1) := by decide +kernel
theorem dX2_product_40 : decode cX2_product 40 = .ok (.aload_n 0, 1) := by decide +kernel
theorem dX2_product_41 : decode cX2_product 41 = .ok (.getfield 17, 3) := by decide +kernel
theorem dX2_product_44 : decode cX2_product 44 = .ok (.iload_n 1, 1) := by decide +kernel
theorem dX2_product_45 : decode cX2_product 45 = .ok (.iaload, 1) := by decide +kernel
theorem dX2_product_46 : decode cX2_product 46 = .ok (.aload_n 0, 1) := by decide +kernel
theorem dX2_product_47 : decode cX2_product 47 = .ok (.getfield 17, 3) := by decide +kernel
theorem dX2_product_50 : decode cX2_product 50 = .ok (.iload_n 2, 1) := by decide +kernel
theorem dX2_product_51 : decode cX2_product 51 = .ok (.iaload, 1) := by decide +kernel
theorem dX2_product_52 : decode cX2_product 52 = .ok (.iadd, 1) := by decide +kernel
theorem dX2_product_53 : decode cX2_product 53 = .ok (.iconst 0, 1) := by decide +kernel
theorem dX2_product_54 : decode cX2_product 54 = .ok (.invokevirtual 83, 3) := by decide +kernel
theorem dX2_product_57 : decode cX2_product 57 = .ok (.ireturn, 1) := by decide +kernel
theorem dX2_quotient_0 : decode cX2_quotient 0 = .ok (.aload_n 0, 1) := by decide +kernel
theorem dX2_quotient_1 : decode cX2_quotient 1 = .ok (.getfield 24, 3) := by decide +kernel
theorem dX2_quotient_4 : decode cX2_quotient 4 = .ok (.lload_n 2, 1) := by decide +kernel
theorem dX2_quotient_5 : decode cX2_quotient 5 = .ok (.lload 5, 2) := by decide +kernel
theorem dX2_quotient_7 : decode cX2_quotient 7 = .ok (.ldiv, 1) := by decide +kernel
theorem dX2_quotient_8 : decode cX2_quotient 8 = .ok (.invokevirtual 79, 3) := by decide +kernel
theorem dX2_quotient_11 : decode cX2_quotient 11 = .ok (.lload_n 2, 1) := by decide +kernel
theorem dX2_quotient_12 : decode cX2_quotient 12 = .ok (.lload 5, 2) := by decide +kernel
theorem dX2_quotient_14 : decode cX2_quotient 14 = .ok (.lrem, 1) := by decide +kernel
theorem dX2_quotient_15 : decode cX2_quotient 15 = .ok (.lstore 8, 2) := by decide +kernel
theorem dX2_quotient_17 : decode cX2_quotient 17 = .ok (.iconst 0, 1) := by decide +kernel
theorem dX2_quotient_18 : decode cX2_quotient 18 = .ok (.istore 10, 2) := by decide +kernel
theorem dX2_quotient_20 : decode cX2_quotient 20 = .ok (.iload 10, 2) := by decide +kernel
theorem dX2_quotient_22 : decode cX2_quotient 22 = .ok (.bipush 120, 2) := by decide +kernel
theorem dX2_quotient_24 : decode cX2_quotient 24 = .ok (.if_icmp .ge 57, 3) := by decide +kernel
theorem dX2_quotient_27 : decode cX2_quotient 27 = .ok (.ldc2_w 61, 3) := by decide +kernel
theorem dX2_quotient_30 : decode cX2_quotient 30 = .ok (.lload 8, 2) := by decide +kernel
theorem dX2_quotient_32 : decode cX2_quotient 32 = .ok (.lmul, 1) := by decide +kernel
theorem dX2_quotient_33 : decode cX2_quotient 33 = .ok (.lstore 8, 2) := by decide +kernel
theorem dX2_quotient_35 : decode cX2_quotient 35 = .ok (.aload_n 0, 1) := by decide +kernel
theorem dX2_quotient_36 : decode cX2_quotient 36 = .ok (.getfield 24, 3) := by decide +kernel
theorem dX2_quotient_39 : decode cX2_quotient 39 = .ok (.lload 8, 2) := by decide +kernel
theorem dX2_quotient_41 : decode cX2_quotient 41 = .ok (.lload 5, 2) := by decide +kernel
theorem dX2_quotient_43 : decode cX2_quotient 43 = .ok (.lcmp, 1) := by decide +kernel
theorem dX2_quotient_44 : decode cX2_quotient 44 = .ok (.ifCond .lt 7, 3) := by decide +kernel
theorem dX2_quotient_47 : decode cX2_quotient 47 = .ok (.iconst 1, 1) := by decide +kernel
theorem dX2_quotient_48 : decode cX2_quotient 48 = .ok (.goto 4, 3) := by decide +kernel
theorem dX2_quotient_51 : decode cX2_quotient 51 = .ok (.iconst 0, 1) := by decide +kernel
theorem dX2_quotient_52 : decode cX2_quotient 52 = .ok (.invokevirtual 123, 3) := by decide +kernel
theorem dX2_quotient_55 : decode cX2_quotient 55 = .ok (.lload 8, 2) := by decide +kernel
theorem dX2_quotient_57 : decode cX2_quotient 57 = .ok (.lload 5, 2) := by decide +kernel
theorem dX2_quotient_59 : decode cX2_quotient 59 = .ok (.lcmp, 1) := by decide +kernel
theorem dX2_quotient_60 : decode cX2_quotient 60 = .ok (.ifCond .lt 11, 3) := by decide +kernel
theorem dX2_quotient_63 : decode cX2_quotient 63 = .ok (.lload 8, 2) := by decide +kernel
theorem dX2_quotient_65 : decode cX2_quotient 65 = .ok (.lload 5, 2) := by decide +kernel
theorem dX2_quotient_67 : decode cX2_quotient 67 = .ok (.lsub, 1) := by decide +kernel
theorem dX2_quotient_68 : decode cX2_quotient 68 = .ok (.goto 5, 3) := by decide +kernel
theorem dX2_quotient_71 : decode cX2_quotient 71 = .ok (.lload 8, 2) := by decide +kernel
theorem dX2_quotient_73 : decode cX2_quotient 73 = .ok (.lstore 8, 2) := by decide +kernel
theorem dX2_quotient_75 : decode cX2_quotient 75 = .ok (.iinc 10 1, 3) := by decide +kernel
theorem dX2_quotient_78 : decode cX2_quotient 78 = .ok (.goto (-58), 3) := by decide +kernel
theorem dX2_quotient_81 : decode cX2_quotient 81 = .ok (.aload_n 0, 1) := by decide +kernel
theorem dX2_quotient_82 : decode cX2_quotient 82 = .ok (.iload_n 1, 1) := by decide +kernel
theorem dX2_quotient_83 : decode cX2_quotient 83 = .ok (.iload 4, 2) := by decide +kernel
theorem dX2_quotient_85 : decode cX2_quotient 85 = .ok (.iload 7, 2) := by decide +kernel
theorem dX2_quotient_87 : decode cX2_quotient 87 = .ok (.isub, 1) := by decide +kernel
theorem dX2_quotient_88 : decode cX2_quotient 88 = .ok (.bipush 120, 2) := by decide +kernel
theorem dX2_quotient_90 : decode cX2_quotient 90 = .ok (.isub, 1) := by decide +kernel
theorem dX2_quotient_91 : decode cX2_quotient 91 = .ok (.lload 8, 2) := by decide +kernel
theorem dX2_quotient_93 : decode cX2_quotient 93 = .ok (.lconst 0, 1) := by decide +kernel
theorem dX2_quotient_94 : decode cX2_quotient 94 = .ok (.lcmp, 1) := by decide +kernel
theorem dX2_quotient_95 : decode cX2_quotient 95 = .ok (.ifCond .le 7, 3) := by decide +kernel
theorem dX2_quotient_98 : decode cX2_quotient 98 = .ok (.iconst 1, 1) := by decide +kernel
theorem dX2_quotient_99 : decode cX2_quotient 99 = .ok (.goto 4, 3) := by decide +kernel
theorem dX2_quotient_102 : decode cX2_quotient 102 = .ok (.iconst 0, 1) := by decide +kernel
theorem dX2_quotient_103 : decode cX2_quotient 103 = .ok (.invokevirtual 83, 3) := by decide +kernel
theorem dX2_quotient_106 : decode cX2_quotient 106 = .ok (.ireturn, 1) := by decide +kernel
theorem dX2_rest_0 : decode cX2_rest 0 = .ok (.aload_n 0, 1) := by decide +kernel
theorem dX2_rest_1 : decode cX2_rest 1 = .ok (.iload_n 1, 1) := by decide +kernel
theorem dX2_rest_2 : decode cX2_rest 2 = .ok (.invokevirtual 127, 3) := by decide +kernel
theorem dX2_rest_5 : decode cX2_rest 5 = .ok (.aload_n 0, 1) := by decide +kernel
theorem dX2_rest_6 : decode cX2_rest 6 = .ok (.getfield 17, 3) := by decide +kernel
theorem dX2_rest_9 : decode cX2_rest 9 = .ok (.iload_n 1, 1) := by decide +kernel
theorem dX2_rest_10 : decode cX2_rest 10 = .ok (.iaload, 1) := by decide +kernel
theorem dX2_rest_11 : decode cX2_rest 11 = .ok (.aload_n 0, 1) := by decide +kernel
theorem dX2_rest_12 : decode cX2_rest 12 = .ok (.getfield 17, 3) := by decide +kernel
theorem dX2_rest_15 : decode cX2_rest 15 = .ok (.iload_n 2, 1) := by decide +kernel
theorem dX2_rest_16 : decode cX2_rest 16 = .ok (.iaload, 1) := by decide +kernel
theorem dX2_rest_17 : decode cX2_rest 17 = .ok (.isub, 1) := by decide +kernel
theorem dX2_rest_18 : decode cX2_rest 18 = .ok (.istore_n 3, 1) := by decide +kernel
theorem dX2_rest_19 : decode cX2_rest 19 = .ok (.iload_n 3, 1) := by decide +kernel
theorem dX2_rest_20 : decode cX2_rest 20 = .ok (.ifCond .lt 67, 3) := by decide +kernel
theorem dX2_rest_23 : decode cX2_rest 23 = .ok (.aload_n 0, 1) := by decide +kernel
theorem dX2_rest_24 : decode cX2_rest 24 = .ok (.getfield 13, 3) := by decide +kernel
theorem dX2_rest_27 : decode cX2_rest 27 = .ok (.iload_n 1, 1) := by decide +kernel
theorem dX2_rest_28 : decode cX2_rest 28 = .ok (.laload, 1) := by decide +kernel
theorem dX2_rest_29 : decode cX2_rest 29 = .ok (.aload_n 0, 1) := by decide +kernel
theorem dX2_rest_30 : decode cX2_rest 30 = .ok (.getfield 13, 3) := by decide +kernel
theorem dX2_rest_33 : decode cX2_rest 33 = .ok (.iload_n 2, 1) := by decide +kernel
theorem dX2_rest_34 : decode cX2_rest 34 = .ok (.laload, 1) := by decide +kernel
theorem dX2_rest_35 : decode cX2_rest 35 = .ok (.lrem, 1) := by decide +kernel
theorem dX2_rest_36 : decode cX2_rest 36 = .ok (.lstore 4, 2) := by decide +kernel
theorem dX2_rest_38 : decode cX2_rest 38 = .ok (.iconst 0, 1) := by decide +kernel
theorem dX2_rest_39 : decode cX2_rest 39 = .ok (.istore 6, 2) := by decide +kernel
theorem dX2_rest_41 : decode cX2_rest 41 = .ok (.iload 6, 2) := by decide +kernel
theorem dX2_rest_43 : decode cX2_rest 43 = .ok (.iload_n 3, 1) := by decide +kernel
theorem dX2_rest_44 : decode cX2_rest 44 = .ok (.if_icmp .ge 24, 3) := by decide +kernel
theorem dX2_rest_47 : decode cX2_rest 47 = .ok (.ldc2_w 61, 3) := by decide +kernel
theorem dX2_rest_50 : decode cX2_rest 50 = .ok (.lload 4, 2) := by decide +kernel
theorem dX2_rest_52 : decode cX2_rest 52 = .ok (.lmul, 1) := by decide +kernel
theorem dX2_rest_53 : decode cX2_rest 53 = .ok (.aload_n 0, 1) := by decide +kernel
theorem dX2_rest_54 : decode cX2_rest 54 = .ok (.getfield 13, 3) := by decide +kernel
theorem dX2_rest_57 : decode cX2_rest 57 = .ok (.iload_n 2, 1) := by decide +kernel
theorem dX2_rest_58 : decode cX2_rest 58 = .ok (.laload, 1) := by decide +kernel
theorem dX2_rest_59 : decode cX2_rest 59 = .ok (.lrem, 1) := by decide +kernel
theorem dX2_rest_60 : decode cX2_rest 60 = .ok (.lstore 4, 2) := by decide +kernel
theorem dX2_rest_62 : decode cX2_rest 62 = .ok (.iinc 6 1, 3) := by decide +kernel
theorem dX2_rest_65 : decode cX2_rest 65 = .ok (.goto (-24), 3) := by decide +kernel
theorem dX2_rest_68 : decode cX2_rest 68 = .ok (.aload_n 0, 1) := by decide +kernel
theorem dX2_rest_69 : decode cX2_rest 69 = .ok (.lload 4, 2) := by decide +kernel
theorem dX2_rest_71 : decode cX2_rest 71 = .ok (.putfield 47, 3) := by decide +kernel
theorem dX2_rest_74 : decode cX2_rest 74 = .ok (.aload_n 0, 1) := by decide +kernel
theorem dX2_rest_75 : decode cX2_rest 75 = .ok (.aload_n 0, 1) := by decide +kernel
theorem dX2_rest_76 : decode cX2_rest 76 = .ok (.getfield 17, 3) := by decide +kernel
theorem dX2_rest_79 : decode cX2_rest 79 = .ok (.iload_n 2, 1) := by decide +kernel
theorem dX2_rest_80 : decode cX2_rest 80 = .ok (.iaload, 1) := by decide +kernel
theorem dX2_rest_81 : decode cX2_rest 81 = .ok (.putfield 51, 3) := by decide +kernel
theorem dX2_rest_84 : decode cX2_rest 84 = .ok (.goto 49, 3) := by decide +kernel
theorem dX2_rest_87 : decode cX2_rest 87 = .ok (.iload_n 3, 1) := by decide +kernel
theorem dX2_rest_88 : decode cX2_rest 88 = .ok (.ineg, 1) := by decide +kernel
theorem dX2_rest_89 : decode cX2_rest 89 = .ok (.bipush 60, 2) := by decide +kernel
theorem dX2_rest_91 : decode cX2_rest 91 = .ok (.if_icmp .ge 42, 3) := by decide +kernel
theorem dX2_rest_94 : decode cX2_rest 94 = .ok (.aload_n 0, 1) := by decide +kernel
theorem dX2_rest_95 : decode cX2_rest 95 = .ok (.getfield 13, 3) := by decide +kernel
theorem dX2_rest_98 : decode cX2_rest 98 = .ok (.iload_n 2, 1) := by decide +kernel
theorem dX2_rest_99 : decode cX2_rest 99 = .ok (.laload, 1) := by decide +kernel
theorem dX2_rest_100 : decode cX2_rest 100 = .ok (.aload_n 0, 1) := by decide +kernel
theorem dX2_rest_101 : decode cX2_rest 101 = .ok (.getfield 13, 3) := by decide +kernel
theorem dX2_rest_104 : decode cX2_rest 104 = .ok (.iload_n 1, 1) := by decide +kernel
theorem dX2_rest_105 : decode cX2_rest 105 = .ok (.laload, 1) := by decide +kernel
theorem dX2_rest_106 : decode cX2_rest 106 = .ok (.iload_n 3, 1) := by decide +kernel
theorem dX2_rest_107 : decode cX2_rest 107 = .ok (.ineg, 1) := by decide +kernel
theorem dX2_rest_108 : decode cX2_rest 108 = .ok (.lshr, 1) := by decide +kernel
theorem dX2_rest_109 : decode cX2_rest 109 = .ok (.lcmp, 1) := by decide +kernel
theorem dX2_rest_110 : decode cX2_rest 110 = .ok (.ifCond .gt 23, 3) := by decide +kernel
theorem dX2_rest_113 : decode cX2_rest 113 = .ok (.aload_n 0, 1) := by decide +kernel
theorem dX2_rest_114 : decode cX2_rest 114 = .ok (.aload_n 0, 1) := by decide +kernel
theorem dX2_rest_115 : decode cX2_rest 115 = .ok (.getfield 13, 3) := by decide +kernel
theorem dX2_rest_118 : decode cX2_rest 118 = .ok (.iload_n 1, 1) := by decide +kernel
theorem dX2_rest_119 : decode cX2_rest 119 = .ok (.laload, 1) := by decide +kernel
theorem dX2_rest_120 : decode cX2_rest 120 = .ok (.aload_n 0, 1) := by decide +kernel
theorem dX2_rest_121 : decode cX2_rest 121 = .ok (.getfield 13, 3) := by decide +kernel
theorem dX2_rest_124 : decode cX2_rest 124 = .ok (.iload_n 2, 1) := by decide +kernel
theorem dX2_rest_125 : decode cX2_rest 125 = .ok (.laload, 1) := by decide +kernel
theorem dX2_rest_126 : decode cX2_rest 126 = .ok (.iload_n 3, 1) := by decide +kernel
theorem dX2_rest_127 : decode cX2_rest 127 = .ok (.ineg, 1) := by decide +kernel
theorem dX2_rest_128 : decode cX2_rest 128 = .ok (.lshl, 1) := by decide +kernel
theorem dX2_rest_129 : decode cX2_rest 129 = .ok (.lrem, 1) := by decide +kernel
theorem dX2_rest_130 : decode cX2_rest 130 = .ok (.putfield 47, 3) := by decide +kernel
theorem dX2_rest_133 : decode cX2_rest 133 = .ok (.aload_n 0, 1) := by decide +kernel
theorem dX2_rest_134 : decode cX2_rest 134 = .ok (.invokevirtual 63, 3) := by decide +kernel
theorem dX2_rest_137 : decode cX2_rest 137 = .ok (.ireturn, 1) := by decide +kernel
theorem dX2_errorOf_0 : decode cX2_errorOf 0 = .ok (.aload_n 0, 1) := by decide +kernel
theorem dX2_errorOf_1 : decode cX2_errorOf 1 = .ok (.getfield 28, 3) := by decide +kernel
theorem dX2_errorOf_4 : decode cX2_errorOf 4 = .ok (.aload_n 0, 1) := by decide +kernel
theorem dX2_errorOf_5 : decode cX2_errorOf 5 = .ok (.getfield 47, 3) := by decide +kernel
theorem dX2_errorOf_8 : decode cX2_errorOf 8 = .ok (.invokevirtual 79, 3) := by decide +kernel
theorem dX2_errorOf_11 : decode cX2_errorOf 11 = .ok (.aload_n 0, 1) := by decide +kernel
theorem dX2_errorOf_12 : decode cX2_errorOf 12 = .ok (.getfield 28, 3) := by decide +kernel
theorem dX2_errorOf_15 : decode cX2_errorOf 15 = .ok (.aload_n 0, 1) := by decide +kernel
theorem dX2_errorOf_16 : decode cX2_errorOf 16 = .ok (.getfield 51, 3) := by decide +kernel
theorem dX2_errorOf_19 : decode cX2_errorOf 19 = .ok (.iload_n 2, 1) := by decide +kernel
theorem dX2_errorOf_20 : decode cX2_errorOf 20 = .ok (.isub, 1) := by decide +kernel
theorem dX2_errorOf_21 : decode cX2_errorOf 21 = .ok (.invokevirtual 94, 3) := by decide +kernel
theorem dX2_errorOf_24 : decode cX2_errorOf 24 = .ok (.aload_n 0, 1) := by decide +kernel
theorem dX2_errorOf_25 : decode cX2_errorOf 25 = .ok (.getfield 24, 3) := by decide +kernel
theorem dX2_errorOf_28 : decode cX2_errorOf 28 = .ok (.aload_n 0, 1) := by decide +kernel
theorem dX2_errorOf_29 : decode cX2_errorOf 29 = .ok (.getfield 28, 3) := by decide +kernel
theorem dX2_errorOf_32 : decode cX2_errorOf 32 = .ok (.invokevirtual 102, 3) := by decide +kernel
theorem dX2_errorOf_35 : decode cX2_errorOf 35 = .ok (.istore_n 3, 1) := by decide +kernel
theorem dX2_errorOf_36 : decode cX2_errorOf 36 = .ok (.iload_n 3, 1) := by decide +kernel
theorem dX2_errorOf_37 : decode cX2_errorOf 37 = .ok (.ifCond .ge 7, 3) := by decide +kernel
theorem dX2_errorOf_40 : decode cX2_errorOf 40 = .ok (.aload_n 0, 1) := by decide +kernel
theorem dX2_errorOf_41 : decode cX2_errorOf 41 = .ok (.invokevirtual 109, 3) := by decide +kernel
theorem dX2_errorOf_44 : decode cX2_errorOf 44 = .ok (.aload_n 0, 1) := by decide +kernel
theorem dX2_errorOf_45 : decode cX2_errorOf 45 = .ok (.getfield 24, 3) := by decide +kernel
theorem dX2_errorOf_48 : decode cX2_errorOf 48 = .ok (.aload_n 0, 1) := by decide +kernel
theorem dX2_errorOf_49 : decode cX2_errorOf 49 = .ok (.getfield 28, 3) := by decide +kernel
theorem dX2_errorOf_52 : decode cX2_errorOf 52 = .ok (.invokevirtual 106, 3) := by decide +kernel
theorem dX2_errorOf_55 : decode cX2_errorOf 55 = .ok (.aload_n 0, 1) := by decide +kernel
theorem dX2_errorOf_56 : decode cX2_errorOf 56 = .ok (.iload_n 1, 1) := by decide +kernel
theorem dX2_errorOf_57 : decode cX2_errorOf 57 = .ok (.iload_n 3, 1) := by decide +kernel
theorem dX2_errorOf_58 : decode cX2_errorOf 58 = .ok (.ifCond .ge 7, 3) := by decide +kernel
theorem dX2_errorOf_61 : decode cX2_errorOf 61 = .ok (.iconst 1, 1) := by decide +kernel
theorem dX2_errorOf_62 : decode cX2_errorOf 62 = .ok (.goto 4, 3) := by decide +kernel
theorem dX2_errorOf_65 : decode cX2_errorOf 65 = .ok (.iconst 0, 1) := by decide +kernel
theorem dX2_errorOf_66 : decode cX2_errorOf 66 = .ok (.if_icmp .eq 7, 3) := by decide +kernel
theorem dX2_errorOf_69 : decode cX2_errorOf 69 = .ok (.iconst 1, 1) := by decide +kernel
theorem dX2_errorOf_70 : decode cX2_errorOf 70 = .ok (.goto 4, 3) := by decide +kernel
theorem dX2_errorOf_73 : decode cX2_errorOf 73 = .ok (.iconst 0, 1) := by decide +kernel
theorem dX2_errorOf_74 : decode cX2_errorOf 74 = .ok (.iload_n 2, 1) := by decide +kernel
theorem dX2_errorOf_75 : decode cX2_errorOf 75 = .ok (.iconst 0, 1) := by decide +kernel
theorem dX2_errorOf_76 : decode cX2_errorOf 76 = .ok (.invokevirtual 83, 3) := by decide +kernel
theorem dX2_errorOf_79 : decode cX2_errorOf 79 = .ok (.ireturn, 1) := by decide +kernel
theorem dX2_sumError_0 : decode cX2_sumError 0 = .ok (.aload_n 0, 1) := by decide +kernel
theorem dX2_sumError_1 : decode cX2_sumError 1 = .ok (.iload_n 1, 1) := by decide +kernel
theorem dX2_sumError_2 : decode cX2_sumError 2 = .ok (.iload_n 2, 1) := by decide +kernel
theorem dX2_sumError_3 : decode cX2_sumError 3 = .ok (.iconst 0, 1) := by decide +kernel
theorem dX2_sumError_4 : decode cX2_sumError 4 = .ok (.invokevirtual 115, 3) := by decide +kernel
theorem dX2_sumError_7 : decode cX2_sumError 7 = .ok (.istore_n 3, 1) := by decide +kernel
theorem dX2_sumError_8 : decode cX2_sumError 8 = .ok (.aload_n 0, 1) := by decide +kernel
theorem dX2_sumError_9 : decode cX2_sumError 9 = .ok (.getfield 17, 3) := by decide +kernel
theorem dX2_sumError_12 : decode cX2_sumError 12 = .ok (.iload_n 1, 1) := by decide +kernel
theorem dX2_sumError_13 : decode cX2_sumError 13 = .ok (.iaload, 1) := by decide +kernel
theorem dX2_sumError_14 : decode cX2_sumError 14 = .ok (.aload_n 0, 1) := by decide +kernel
theorem dX2_sumError_15 : decode cX2_sumError 15 = .ok (.getfield 17, 3) := by decide +kernel
theorem dX2_sumError_18 : decode cX2_sumError 18 = .ok (.iload_n 2, 1) := by decide +kernel
theorem dX2_sumError_19 : decode cX2_sumError 19 = .ok (.iaload, 1) := by decide +kernel
theorem dX2_sumError_20 : decode cX2_sumError 20 = .ok (.if_icmp .ge 12, 3) := by decide +kernel
theorem dX2_sumError_23 : decode cX2_sumError 23 = .ok (.aload_n 0, 1) := by decide +kernel
theorem dX2_sumError_24 : decode cX2_sumError 24 = .ok (.getfield 17, 3) := by decide +kernel
theorem dX2_sumError_27 : decode cX2_sumError 27 = .ok (.iload_n 1, 1) := by decide +kernel
theorem dX2_sumError_28 : decode cX2_sumError 28 = .ok (.iaload, 1) := by decide +kernel
theorem dX2_sumError_29 : decode cX2_sumError 29 = .ok (.goto 9, 3) := by decide +kernel
theorem dX2_sumError_32 : decode cX2_sumError 32 = .ok (.aload_n 0, 1) := by decide +kernel
theorem dX2_sumError_33 : decode cX2_sumError 33 = .ok (.getfield 17, 3) := by decide +kernel
theorem dX2_sumError_36 : decode cX2_sumError 36 = .ok (.iload_n 2, 1) := by decide +kernel
theorem dX2_sumError_37 : decode cX2_sumError 37 = .ok (.iaload, 1) := by decide +kernel
theorem dX2_sumError_38 : decode cX2_sumError 38 = .ok (.istore 4, 2) := by decide +kernel
theorem dX2_sumError_40 : decode cX2_sumError 40 = .ok (.aload_n 0, 1) := by decide +kernel
theorem dX2_sumError_41 : decode cX2_sumError 41 = .ok (.iload_n 3, 1) := by decide +kernel
theorem dX2_sumError_42 : decode cX2_sumError 42 = .ok (.iload 4, 2) := by decide +kernel
theorem dX2_sumError_44 : decode cX2_sumError 44 = .ok (.iconst 0, 1) := by decide +kernel
theorem dX2_sumError_45 : decode cX2_sumError 45 = .ok (.invokevirtual 83, 3) := by decide +kernel
theorem dX2_sumError_48 : decode cX2_sumError 48 = .ok (.iconst (-1), 1) := by decide +kernel
theorem dX2_sumError_49 : decode cX2_sumError 49 = .ok (.if_icmp .ne 5, 3) := by decide +kernel
theorem dX2_sumError_52 : decode cX2_sumError 52 = .ok (.iconst (-1), 1) := by decide +kernel
theorem dX2_sumError_53 : decode cX2_sumError 53 = .ok (.ireturn, 1) := by decide +kernel
theorem dX2_sumError_54 : decode cX2_sumError 54 = .ok (.aload_n 0, 1) := by decide +kernel
theorem dX2_sumError_55 : decode cX2_sumError 55 = .ok (.iload 4, 2) := by decide +kernel
theorem dX2_sumError_57 : decode cX2_sumError 57 = .ok (.invokevirtual 130, 3) := by decide +kernel
theorem dX2_sumError_60 : decode cX2_sumError 60 = .ok (.aload_n 0, 1) := by decide +kernel
theorem dX2_sumError_61 : decode cX2_sumError 61 = .ok (.iload_n 3, 1) := by decide +kernel
theorem dX2_sumError_62 : decode cX2_sumError 62 = .ok (.iload 4, 2) := by decide +kernel
theorem dX2_sumError_64 : decode cX2_sumError 64 = .ok (.invokevirtual 133, 3) := by decide +kernel
theorem dX2_sumError_67 : decode cX2_sumError 67 = .ok (.ireturn, 1) := by decide +kernel
theorem dX2_lower_0 : decode cX2_lower 0 = .ok (.aload_n 0, 1) := by decide +kernel
theorem dX2_lower_1 : decode cX2_lower 1 = .ok (.getfield 51, 3) := by decide +kernel
theorem dX2_lower_4 : decode cX2_lower 4 = .ok (.iload_n 1, 1) := by decide +kernel
theorem dX2_lower_5 : decode cX2_lower 5 = .ok (.if_icmp .ge 28, 3) := by decide +kernel
theorem dX2_lower_8 : decode cX2_lower 8 = .ok (.aload_n 0, 1) := by decide +kernel
theorem dX2_lower_9 : decode cX2_lower 9 = .ok (.aload_n 0, 1) := by decide +kernel
theorem dX2_lower_10 : decode cX2_lower 10 = .ok (.getfield 47, 3) := by decide +kernel
theorem dX2_lower_13 : decode cX2_lower 13 = .ok (.ldc2_w 61, 3) := by decide +kernel
theorem dX2_lower_16 : decode cX2_lower 16 = .ok (.ldiv, 1) := by decide +kernel
theorem dX2_lower_17 : decode cX2_lower 17 = .ok (.putfield 47, 3) := by decide +kernel
theorem dX2_lower_20 : decode cX2_lower 20 = .ok (.aload_n 0, 1) := by decide +kernel
theorem dX2_lower_21 : decode cX2_lower 21 = .ok (.dup, 1) := by decide +kernel
theorem dX2_lower_22 : decode cX2_lower 22 = .ok (.getfield 51, 3) := by decide +kernel
theorem dX2_lower_25 : decode cX2_lower 25 = .ok (.iconst 1, 1) := by decide +kernel
theorem dX2_lower_26 : decode cX2_lower 26 = .ok (.iadd, 1) := by decide +kernel
theorem dX2_lower_27 : decode cX2_lower 27 = .ok (.putfield 51, 3) := by decide +kernel
theorem dX2_lower_30 : decode cX2_lower 30 = .ok (.goto (-30), 3) := by decide +kernel
theorem dX2_lower_33 : decode cX2_lower 33 = .ok (.return_, 1) := by decide +kernel
theorem dX2_productError_0 : decode cX2_productError 0 = .ok (.aload_n 0, 1) := by decide +kernel
theorem dX2_productError_1 : decode cX2_productError 1 = .ok (.iload_n 1, 1) := by decide +kernel
theorem dX2_productError_2 : decode cX2_productError 2 = .ok (.iload_n 2, 1) := by decide +kernel
theorem dX2_productError_3 : decode cX2_productError 3 = .ok (.invokevirtual 137, 3) := by decide +kernel
theorem dX2_productError_6 : decode cX2_productError 6 = .ok (.iconst (-1), 1) := by decide +kernel
theorem dX2_productError_7 : decode cX2_productError 7 = .ok (.if_icmp .ne 5, 3) := by decide +kernel
theorem dX2_productError_10 : decode cX2_productError 10 = .ok (.iconst (-1), 1) := by decide +kernel
theorem dX2_productError_11 : decode cX2_productError 11 = .ok (.ireturn, 1) := by decide +kernel
theorem dX2_productError_12 : decode cX2_productError 12 = .ok (.aload_n 0, 1) := by decide +kernel
theorem dX2_productError_13 : decode cX2_productError 13 = .ok (.getfield 13, 3) := by decide +kernel
theorem dX2_productError_16 : decode cX2_productError 16 = .ok (.iload_n 1, 1) := by decide +kernel
theorem dX2_productError_17 : decode cX2_productError 17 = .ok (.laload, 1) := by decide +kernel
theorem dX2_productError_18 : decode cX2_productError 18 = .ok (.lconst 0, 1) := by decide +kernel
theorem dX2_productError_19 : decode cX2_productError 19 = .ok (.lcmp, 1) := by decide +kernel
theorem dX2_productError_20 : decode cX2_productError 20 = .ok (.ifCond .eq 14, 3) := by decide +kernel
theorem dX2_productError_23 : decode cX2_productError 23 = .ok (.aload_n 0, 1) := by decide +kernel
theorem dX2_productError_24 : decode cX2_productError 24 = .ok (.getfield 13, 3) := by decide +kernel
theorem dX2_productError_27 : decode cX2_productError 27 = .ok (.iload_n 2, 1) := by decide +kernel
theorem dX2_productError_28 : decode cX2_productError 28 = .ok (.laload, 1) := by decide +kernel
theorem dX2_productError_29 : decode cX2_productError 29 = .ok (.lconst 0, 1) := by decide +kernel
theorem dX2_productError_30 : decode cX2_productError 30 = .ok (.lcmp, 1) := by decide +kernel
theorem dX2_productError_31 : decode cX2_productError 31 = .ok (.ifCond .ne 8, 3) := by decide +kernel
theorem dX2_productError_34 : decode cX2_productError 34 = .ok (.aload_n 0, 1) := by decide +kernel
theorem dX2_productError_35 : decode cX2_productError 35 = .ok (.invokevirtual 63, 3) := by decide +kernel
theorem dX2_productError_38 : decode cX2_productError 38 = .ok (.ireturn, 1) := by decide +kernel
theorem dX2_productError_39 : decode cX2_productError 39 = .ok (.aload_n 0, 1) := by decide +kernel
theorem dX2_productError_40 : decode cX2_productError 40 = .ok (.getfield 17, 3) := by decide +kernel
theorem dX2_productError_43 : decode cX2_productError 43 = .ok (.iload_n 1, 1) := by decide +kernel
theorem dX2_productError_44 : decode cX2_productError 44 = .ok (.iaload, 1) := by decide +kernel
theorem dX2_productError_45 : decode cX2_productError 45 = .ok (.aload_n 0, 1) := by decide +kernel
theorem dX2_productError_46 : decode cX2_productError 46 = .ok (.getfield 17, 3) := by decide +kernel
theorem dX2_productError_49 : decode cX2_productError 49 = .ok (.iload_n 2, 1) := by decide +kernel
theorem dX2_productError_50 : decode cX2_productError 50 = .ok (.iaload, 1) := by decide +kernel
theorem dX2_productError_51 : decode cX2_productError 51 = .ok (.iadd, 1) := by decide +kernel
theorem dX2_productError_52 : decode cX2_productError 52 = .ok (.istore_n 3, 1) := by decide +kernel
theorem dX2_productError_53 : decode cX2_productError 53 = .ok (.aload_n 0, 1) := by decide +kernel
theorem dX2_productError_54 : decode cX2_productError 54 = .ok (.getfield 24, 3) := by decide +kernel
theorem dX2_productError_57 : decode cX2_productError 57 = .ok (.invokevirtual 35, 3) := by decide +kernel
theorem dX2_productError_60 : decode cX2_productError 60 = .ok (.iconst 1, 1) := by decide +kernel
theorem dX2_productError_61 : decode cX2_productError 61 = .ok (.isub, 1) := by decide +kernel
theorem dX2_productError_62 : decode cX2_productError 62 = .ok (.iload_n 3, 1) := by decide +kernel
theorem dX2_productError_63 : decode cX2_productError 63 = .ok (.iadd, 1) := by decide +kernel
theorem dX2_productError_64 : decode cX2_productError 64 = .ok (.sipush (-960), 3) := by decide +kernel
theorem dX2_productError_67 : decode cX2_productError 67 = .ok (.if_icmp .ge 6, 3) := by decide +kernel
theorem dX2_productError_70 : decode cX2_productError 70 = .ok (.bipush (-4), 2) := by decide +kernel
theorem dX2_productError_72 : decode cX2_productError 72 = .ok (.ireturn, 1) := by decide +kernel
theorem dX2_productError_73 : decode cX2_productError 73 = .ok (.aload_n 0, 1) := by decide +kernel
theorem dX2_productError_74 : decode cX2_productError 74 = .ok (.iload_n 3, 1) := by decide +kernel
theorem dX2_productError_75 : decode cX2_productError 75 = .ok (.invokevirtual 130, 3) := by decide +kernel
theorem dX2_productError_78 : decode cX2_productError 78 = .ok (.aload_n 0, 1) := by decide +kernel
theorem dX2_productError_79 : decode cX2_productError 79 = .ok (.aload_n 0, 1) := by decide +kernel
theorem dX2_productError_80 : decode cX2_productError 80 = .ok (.getfield 39, 3) := by decide +kernel
theorem dX2_productError_83 : decode cX2_productError 83 = .ok (.iload_n 3, 1) := by decide +kernel
theorem dX2_productError_84 : decode cX2_productError 84 = .ok (.invokevirtual 133, 3) := by decide +kernel
theorem dX2_productError_87 : decode cX2_productError 87 = .ok (.ireturn, 1) := by decide +kernel
theorem dX2_pick_0 : decode cX2_pick 0 = .ok (.aload_n 0, 1) := by decide +kernel
theorem dX2_pick_1 : decode cX2_pick 1 = .ok (.iload_n 1, 1) := by decide +kernel
theorem dX2_pick_2 : decode cX2_pick 2 = .ok (.invokevirtual 127, 3) := by decide +kernel
theorem dX2_pick_5 : decode cX2_pick 5 = .ok (.iconst 0, 1) := by decide +kernel
theorem dX2_pick_6 : decode cX2_pick 6 = .ok (.ireturn, 1) := by decide +kernel
theorem dX2_combined_0 : decode cX2_combined 0 = .ok (.iload_n 1, 1) := by decide +kernel
theorem dX2_combined_1 : decode cX2_combined 1 = .ok (.tableswitch 203 0 7 #[47, 55, 63, 70, 135, 158, 177, 196], 47) := by decide +kernel
theorem dX2_combined_48 : decode cX2_combined 48 = .ok (.aload_n 0, 1) := by decide +kernel
theorem dX2_combined_49 : decode cX2_combined 49 = .ok (.iload_n 2, 1) := by decide +kernel
theorem dX2_combined_50 : decode cX2_combined 50 = .ok (.iload_n 3, 1) := by decide +kernel
theorem dX2_combined_51 : decode cX2_combined 51 = .ok (.iconst 0, 1) := by decide +kernel
theorem dX2_combined_52 : decode cX2_combined 52 = .ok (.invokevirtual 139, 3) := by decide +kernel
theorem dX2_combined_55 : decode cX2_combined 55 = .ok (.ireturn, 1) := by decide +kernel
theorem dX2_combined_56 : decode cX2_combined 56 = .ok (.aload_n 0, 1) := by decide +kernel
theorem dX2_combined_57 : decode cX2_combined 57 = .ok (.iload_n 2, 1) := by decide +kernel
theorem dX2_combined_58 : decode cX2_combined 58 = .ok (.iload_n 3, 1) := by decide +kernel
theorem dX2_combined_59 : decode cX2_combined 59 = .ok (.iconst 1, 1) := by decide +kernel
theorem dX2_combined_60 : decode cX2_combined 60 = .ok (.invokevirtual 139, 3) := by decide +kernel
theorem dX2_combined_63 : decode cX2_combined 63 = .ok (.ireturn, 1) := by decide +kernel
theorem dX2_combined_64 : decode cX2_combined 64 = .ok (.aload_n 0, 1) := by decide +kernel
theorem dX2_combined_65 : decode cX2_combined 65 = .ok (.iload_n 2, 1) := by decide +kernel
theorem dX2_combined_66 : decode cX2_combined 66 = .ok (.iload_n 3, 1) := by decide +kernel
theorem dX2_combined_67 : decode cX2_combined 67 = .ok (.invokevirtual 137, 3) := by decide +kernel
theorem dX2_combined_70 : decode cX2_combined 70 = .ok (.ireturn, 1) := by decide +kernel
theorem dX2_combined_71 : decode cX2_combined 71 = .ok (.aload_n 0, 1) := by decide +kernel
theorem dX2_combined_72 : decode cX2_combined 72 = .ok (.getfield 13, 3) := by decide +kernel
theorem dX2_combined_75 : decode cX2_combined 75 = .ok (.iload_n 3, 1) := by decide +kernel
theorem dX2_combined_76 : decode cX2_combined 76 = .ok (.laload, 1) := by decide +kernel
theorem dX2_combined_77 : decode cX2_combined 77 = .ok (.lconst 0, 1) := by decide +kernel
theorem dX2_combined_78 : decode cX2_combined 78 = .ok (.lcmp, 1) := by decide +kernel
theorem dX2_combined_79 : decode cX2_combined 79 = .ok (.ifCond .ne 8, 3) := by decide +kernel
theorem dX2_combined_82 : decode cX2_combined 82 = .ok (.bipush (-2), 2) := by decide +kernel
theorem dX2_combined_84 : decode cX2_combined 84 = .ok (.goto 51, 3) := by decide +kernel
theorem dX2_combined_87 : decode cX2_combined 87 = .ok (.aload_n 0, 1) := by decide +kernel
theorem dX2_combined_88 : decode cX2_combined 88 = .ok (.aload_n 0, 1) := by decide +kernel
theorem dX2_combined_89 : decode cX2_combined 89 = .ok (.getfield 7, 3) := by decide +kernel
theorem dX2_combined_92 : decode cX2_combined 92 = .ok (.iload_n 2, 1) := by decide +kernel
theorem dX2_combined_93 : decode cX2_combined 93 = .ok (.baload, 1) := by decide +kernel
theorem dX2_combined_94 : decode cX2_combined 94 = .ok (.aload_n 0, 1) := by decide +kernel
theorem dX2_combined_95 : decode cX2_combined 95 = .ok (.getfield 7, 3) := by decide +kernel
theorem dX2_combined_98 : decode cX2_combined 98 = .ok (.iload_n 3, 1) := by decide +kernel
theorem dX2_combined_99 : decode cX2_combined 99 = .ok (.baload, 1) := by decide +kernel
theorem dX2_combined_100 : decode cX2_combined 100 = .ok (.if_icmp .eq 7, 3) := by decide +kernel
theorem dX2_combined_103 : decode cX2_combined 103 = .ok (.iconst 1, 1) := by decide +kernel
theorem dX2_combined_104 : decode cX2_combined 104 = .ok (.goto 4, 3) := by decide +kernel
theorem dX2_combined_107 : decode cX2_combined 107 = .ok (.iconst 0, 1) := by decide +kernel
theorem dX2_combined_108 : decode cX2_combined 108 = .ok (.aload_n 0, 1) := by decide +kernel
theorem dX2_combined_109 : decode cX2_combined 109 = .ok (.getfield 13, 3) := by decide +kernel
theorem dX2_combined_112 : decode cX2_combined 112 = .ok (.iload_n 2, 1) := by decide +kernel
theorem dX2_combined_113 : decode cX2_combined 113 = .ok (.laload, 1) := by decide +kernel
theorem dX2_combined_114 : decode cX2_combined 114 = .ok (.aload_n 0, 1) := by decide +kernel
theorem dX2_combined_115 : decode cX2_combined 115 = .ok (.getfield 17, 3) := by decide +kernel
theorem dX2_combined_118 : decode cX2_combined 118 = .ok (.iload_n 2, 1) := by decide +kernel
theorem dX2_combined_119 : decode cX2_combined 119 = .ok (.iaload, 1) := by decide +kernel
theorem dX2_combined_120 : decode cX2_combined 120 = .ok (.aload_n 0, 1) := by decide +kernel
theorem dX2_combined_121 : decode cX2_combined 121 = .ok (.getfield 13, 3) := by decide +kernel
theorem dX2_combined_124 : decode cX2_combined 124 = .ok (.iload_n 3, 1) := by decide +kernel
theorem dX2_combined_125 : decode cX2_combined 125 = .ok (.laload, 1) := by decide +kernel
theorem dX2_combined_126 : decode cX2_combined 126 = .ok (.aload_n 0, 1) := by decide +kernel
theorem dX2_combined_127 : decode cX2_combined 127 = .ok (.getfield 17, 3) := by decide +kernel
theorem dX2_combined_130 : decode cX2_combined 130 = .ok (.iload_n 3, 1) := by decide +kernel
theorem dX2_combined_131 : decode cX2_combined 131 = .ok (.iaload, 1) := by decide +kernel
theorem dX2_combined_132 : decode cX2_combined 132 = .ok (.invokevirtual 143, 3) := by decide +kernel
theorem dX2_combined_135 : decode cX2_combined 135 = .ok (.ireturn, 1) := by decide +kernel
theorem dX2_combined_136 : decode cX2_combined 136 = .ok (.aload_n 0, 1) := by decide +kernel
theorem dX2_combined_137 : decode cX2_combined 137 = .ok (.getfield 13, 3) := by decide +kernel
theorem dX2_combined_140 : decode cX2_combined 140 = .ok (.iload_n 3, 1) := by decide +kernel
theorem dX2_combined_141 : decode cX2_combined 141 = .ok (.laload, 1) := by decide +kernel
theorem dX2_combined_142 : decode cX2_combined 142 = .ok (.lconst 0, 1) := by decide +kernel
theorem dX2_combined_143 : decode cX2_combined 143 = .ok (.lcmp, 1) := by decide +kernel
theorem dX2_combined_144 : decode cX2_combined 144 = .ok (.ifCond .ne 8, 3) := by decide +kernel
theorem dX2_combined_147 : decode cX2_combined 147 = .ok (.bipush (-2), 2) := by decide +kernel
theorem dX2_combined_149 : decode cX2_combined 149 = .ok (.goto 9, 3) := by decide +kernel
theorem dX2_combined_152 : decode cX2_combined 152 = .ok (.aload_n 0, 1) := by decide +kernel
theorem dX2_combined_153 : decode cX2_combined 153 = .ok (.iload_n 2, 1) := by decide +kernel
theorem dX2_combined_154 : decode cX2_combined 154 = .ok (.iload_n 3, 1) := by decide +kernel
theorem dX2_combined_155 : decode cX2_combined 155 = .ok (.invokevirtual 147, 3) := by decide +kernel
theorem dX2_combined_158 : decode cX2_combined 158 = .ok (.ireturn, 1) := by decide +kernel
theorem dX2_combined_159 : decode cX2_combined 159 = .ok (.aload_n 0, 1) := by decide +kernel
theorem dX2_combined_160 : decode cX2_combined 160 = .ok (.aload_n 0, 1) := by decide +kernel
theorem dX2_combined_161 : decode cX2_combined 161 = .ok (.iload_n 3, 1) := by decide +kernel
theorem dX2_combined_162 : decode cX2_combined 162 = .ok (.iload_n 2, 1) := by decide +kernel
theorem dX2_combined_163 : decode cX2_combined 163 = .ok (.invokevirtual 150, 3) := by decide +kernel
theorem dX2_combined_166 : decode cX2_combined 166 = .ok (.ifCond .ge 7, 3) := by decide +kernel
theorem dX2_combined_169 : decode cX2_combined 169 = .ok (.iload_n 3, 1) := by decide +kernel
theorem dX2_combined_170 : decode cX2_combined 170 = .ok (.goto 4, 3) := by decide +kernel
theorem dX2_combined_173 : decode cX2_combined 173 = .ok (.iload_n 2, 1) := by decide +kernel
theorem dX2_combined_174 : decode cX2_combined 174 = .ok (.invokevirtual 153, 3) := by decide +kernel
theorem dX2_combined_177 : decode cX2_combined 177 = .ok (.ireturn, 1) := by decide +kernel
theorem dX2_combined_178 : decode cX2_combined 178 = .ok (.aload_n 0, 1) := by decide +kernel
theorem dX2_combined_179 : decode cX2_combined 179 = .ok (.aload_n 0, 1) := by decide +kernel
theorem dX2_combined_180 : decode cX2_combined 180 = .ok (.iload_n 3, 1) := by decide +kernel
theorem dX2_combined_181 : decode cX2_combined 181 = .ok (.iload_n 2, 1) := by decide +kernel
theorem dX2_combined_182 : decode cX2_combined 182 = .ok (.invokevirtual 150, 3) := by decide +kernel
theorem dX2_combined_185 : decode cX2_combined 185 = .ok (.ifCond .le 7, 3) := by decide +kernel
theorem dX2_combined_188 : decode cX2_combined 188 = .ok (.iload_n 3, 1) := by decide +kernel
theorem dX2_combined_189 : decode cX2_combined 189 = .ok (.goto 4, 3) := by decide +kernel
theorem dX2_combined_192 : decode cX2_combined 192 = .ok (.iload_n 2, 1) := by decide +kernel
theorem dX2_combined_193 : decode cX2_combined 193 = .ok (.invokevirtual 153, 3) := by decide +kernel
theorem dX2_combined_196 : decode cX2_combined 196 = .ok (.ireturn, 1) := by decide +kernel
theorem dX2_combined_197 : decode cX2_combined 197 = .ok (.aload_n 0, 1) := by decide +kernel
theorem dX2_combined_198 : decode cX2_combined 198 = .ok (.iload_n 2, 1) := by decide +kernel
theorem dX2_combined_199 : decode cX2_combined 199 = .ok (.iload_n 3, 1) := by decide +kernel
theorem dX2_combined_200 : decode cX2_combined 200 = .ok (.invokevirtual 157, 3) := by decide +kernel
theorem dX2_combined_203 : decode cX2_combined 203 = .ok (.ireturn, 1) := by decide +kernel
theorem dX2_combined_204 : decode cX2_combined 204 = .ok (.aload_n 0, 1) := by decide +kernel
theorem dX2_combined_205 : decode cX2_combined 205 = .ok (.iload_n 2, 1) := by decide +kernel
theorem dX2_combined_206 : decode cX2_combined 206 = .ok (.iload_n 3, 1) := by decide +kernel
theorem dX2_combined_207 : decode cX2_combined 207 = .ok (.invokevirtual 160, 3) := by decide +kernel
theorem dX2_combined_210 : decode cX2_combined 210 = .ok (.ireturn, 1) := by decide +kernel
theorem dX2_combine_0 : decode cX2_combine 0 = .ok (.aload_n 0, 1) := by decide +kernel
theorem dX2_combine_1 : decode cX2_combine 1 = .ok (.iload_n 1, 1) := by decide +kernel
theorem dX2_combine_2 : decode cX2_combine 2 = .ok (.invokestatic 70, 3) := by decide +kernel
theorem dX2_combine_5 : decode cX2_combine 5 = .ok (.ifCond .eq 32, 3) := by decide +kernel
theorem dX2_combine_8 : decode cX2_combine 8 = .ok (.iload_n 3, 1) := by decide +kernel
theorem dX2_combine_9 : decode cX2_combine 9 = .ok (.invokestatic 70, 3) := by decide +kernel
theorem dX2_combine_12 : decode cX2_combine 12 = .ok (.ifCond .eq 25, 3) := by decide +kernel
theorem dX2_combine_15 : decode cX2_combine 15 = .ok (.iload 4, 2) := by decide +kernel
theorem dX2_combine_17 : decode cX2_combine 17 = .ok (.invokestatic 70, 3) := by decide +kernel
theorem dX2_combine_20 : decode cX2_combine 20 = .ok (.ifCond .eq 17, 3) := by decide +kernel
theorem dX2_combine_23 : decode cX2_combine 23 = .ok (.iload_n 2, 1) := by decide +kernel
theorem dX2_combine_24 : decode cX2_combine 24 = .ok (.iconst 0, 1) := by decide +kernel
theorem dX2_combine_25 : decode cX2_combine 25 = .ok (.bipush 8, 2) := by decide +kernel
theorem dX2_combine_27 : decode cX2_combine 27 = .ok (.invokestatic 75, 3) := by decide +kernel
theorem dX2_combine_30 : decode cX2_combine 30 = .ok (.ifCond .eq 7, 3) := by decide +kernel
theorem dX2_combine_33 : decode cX2_combine 33 = .ok (.iconst 0, 1) := by decide +kernel
theorem dX2_combine_34 : decode cX2_combine 34 = .ok (.goto 4, 3) := by decide +kernel
theorem dX2_combine_37 : decode cX2_combine 37 = .ok (.iconst 1, 1) := by decide +kernel
theorem dX2_combine_38 : decode cX2_combine 38 = .ok (.putfield 31, 3) := by decide +kernel
theorem dX2_combine_41 : decode cX2_combine 41 = .ok (.aload_n 0, 1) := by decide +kernel
theorem dX2_combine_42 : decode cX2_combine 42 = .ok (.getfield 31, 3) := by decide +kernel
theorem dX2_combine_45 : decode cX2_combine 45 = .ok (.ifCond .le 7, 3) := by decide +kernel
theorem dX2_combine_48 : decode cX2_combine 48 = .ok (.iconst 0, 1) := by decide +kernel
theorem dX2_combine_49 : decode cX2_combine 49 = .ok (.goto 16, 3) := by decide +kernel
theorem dX2_combine_52 : decode cX2_combine 52 = .ok (.aload_n 0, 1) := by decide +kernel
theorem dX2_combine_53 : decode cX2_combine 53 = .ok (.iload_n 1, 1) := by decide +kernel
theorem dX2_combine_54 : decode cX2_combine 54 = .ok (.aload_n 0, 1) := by decide +kernel
theorem dX2_combine_55 : decode cX2_combine 55 = .ok (.iload_n 2, 1) := by decide +kernel
theorem dX2_combine_56 : decode cX2_combine 56 = .ok (.iload_n 3, 1) := by decide +kernel
theorem dX2_combine_57 : decode cX2_combine 57 = .ok (.iload 4, 2) := by decide +kernel
theorem dX2_combine_59 : decode cX2_combine 59 = .ok (.invokevirtual 163, 3) := by decide +kernel
theorem dX2_combine_62 : decode cX2_combine 62 = .ok (.invokevirtual 87, 3) := by decide +kernel
theorem dX2_combine_65 : decode cX2_combine 65 = .ok (.ireturn, 1) := by decide +kernel
theorem dX2_root_0 : decode cX2_root 0 = .ok (.aload_n 0, 1) := by decide +kernel
theorem dX2_root_1 : decode cX2_root 1 = .ok (.getfield 13, 3) := by decide +kernel
theorem dX2_root_4 : decode cX2_root 4 = .ok (.iload_n 1, 1) := by decide +kernel
theorem dX2_root_5 : decode cX2_root 5 = .ok (.laload, 1) := by decide +kernel
theorem dX2_root_6 : decode cX2_root 6 = .ok (.lstore_n 2, 1) := by decide +kernel
theorem dX2_root_7 : decode cX2_root 7 = .ok (.aload_n 0, 1) := by decide +kernel
theorem dX2_root_8 : decode cX2_root 8 = .ok (.getfield 17, 3) := by decide +kernel
theorem dX2_root_11 : decode cX2_root 11 = .ok (.iload_n 1, 1) := by decide +kernel
theorem dX2_root_12 : decode cX2_root 12 = .ok (.iaload, 1) := by decide +kernel
theorem dX2_root_13 : decode cX2_root 13 = .ok (.istore 4, 2) := by decide +kernel
theorem dX2_root_15 : decode cX2_root 15 = .ok (.iload 4, 2) := by decide +kernel
theorem dX2_root_17 : decode cX2_root 17 = .ok (.iconst 2, 1) := by decide +kernel
theorem dX2_root_18 : decode cX2_root 18 = .ok (.irem, 1) := by decide +kernel
theorem dX2_root_19 : decode cX2_root 19 = .ok (.ifCond .eq 12, 3) := by decide +kernel
theorem dX2_root_22 : decode cX2_root 22 = .ok (.ldc2_w 61, 3) := by decide +kernel
theorem dX2_root_25 : decode cX2_root 25 = .ok (.lload_n 2, 1) := by decide +kernel
theorem dX2_root_26 : decode cX2_root 26 = .ok (.lmul, 1) := by decide +kernel
theorem dX2_root_27 : decode cX2_root 27 = .ok (.lstore_n 2, 1) := by decide +kernel
theorem dX2_root_28 : decode cX2_root 28 = .ok (.iinc 4 (-1), 3) := by decide +kernel
theorem dX2_root_31 : decode cX2_root 31 = .ok (.aload_n 0, 1) := by decide +kernel
theorem dX2_root_32 : decode cX2_root 32 = .ok (.getfield 28, 3) := by decide +kernel
theorem dX2_root_35 : decode cX2_root 35 = .ok (.lload_n 2, 1) := by decide +kernel
theorem dX2_root_36 : decode cX2_root 36 = .ok (.invokevirtual 79, 3) := by decide +kernel
theorem dX2_root_39 : decode cX2_root 39 = .ok (.bipush 118, 2) := by decide +kernel
theorem dX2_root_41 : decode cX2_root 41 = .ok (.aload_n 0, 1) := by decide +kernel
theorem dX2_root_42 : decode cX2_root 42 = .ok (.getfield 28, 3) := by decide +kernel
theorem dX2_root_45 : decode cX2_root 45 = .ok (.invokevirtual 35, 3) := by decide +kernel
theorem dX2_root_48 : decode cX2_root 48 = .ok (.isub, 1) := by decide +kernel
theorem dX2_root_49 : decode cX2_root 49 = .ok (.istore 5, 2) := by decide +kernel
theorem dX2_root_51 : decode cX2_root 51 = .ok (.iload 5, 2) := by decide +kernel
theorem dX2_root_53 : decode cX2_root 53 = .ok (.iconst 2, 1) := by decide +kernel
theorem dX2_root_54 : decode cX2_root 54 = .ok (.irem, 1) := by decide +kernel
theorem dX2_root_55 : decode cX2_root 55 = .ok (.ifCond .ne 8, 3) := by decide +kernel
theorem dX2_root_58 : decode cX2_root 58 = .ok (.iload 5, 2) := by decide +kernel
theorem dX2_root_60 : decode cX2_root 60 = .ok (.goto 7, 3) := by decide +kernel
theorem dX2_root_63 : decode cX2_root 63 = .ok (.iload 5, 2) := by decide +kernel
theorem dX2_root_65 : decode cX2_root 65 = .ok (.iconst 1, 1) := by decide +kernel
theorem dX2_root_66 : decode cX2_root 66 = .ok (.iadd, 1) := by decide +kernel
theorem dX2_root_67 : decode cX2_root 67 = .ok (.istore 5, 2) := by decide +kernel
theorem dX2_root_69 : decode cX2_root 69 = .ok (.aload_n 0, 1) := by decide +kernel
theorem dX2_root_70 : decode cX2_root 70 = .ok (.getfield 28, 3) := by decide +kernel
theorem dX2_root_73 : decode cX2_root 73 = .ok (.iload 5, 2) := by decide +kernel
theorem dX2_root_75 : decode cX2_root 75 = .ok (.invokevirtual 94, 3) := by decide +kernel
theorem dX2_root_78 : decode cX2_root 78 = .ok (.lconst 0, 1) := by decide +kernel
theorem dX2_root_79 : decode cX2_root 79 = .ok (.lstore 6, 2) := by decide +kernel
theorem dX2_root_81 : decode cX2_root 81 = .ok (.bipush 60, 2) := by decide +kernel
theorem dX2_root_83 : decode cX2_root 83 = .ok (.istore 8, 2) := by decide +kernel
theorem dX2_root_85 : decode cX2_root 85 = .ok (.iload 8, 2) := by decide +kernel
theorem dX2_root_87 : decode cX2_root 87 = .ok (.ifCond .lt 61, 3) := by decide +kernel
theorem dX2_root_90 : decode cX2_root 90 = .ok (.lload 6, 2) := by decide +kernel
theorem dX2_root_92 : decode cX2_root 92 = .ok (.lconst 1, 1) := by decide +kernel
theorem dX2_root_93 : decode cX2_root 93 = .ok (.iload 8, 2) := by decide +kernel
theorem dX2_root_95 : decode cX2_root 95 = .ok (.lshl, 1) := by decide +kernel
theorem dX2_root_96 : decode cX2_root 96 = .ok (.ladd, 1) := by decide +kernel
theorem dX2_root_97 : decode cX2_root 97 = .ok (.lstore 9, 2) := by decide +kernel
theorem dX2_root_99 : decode cX2_root 99 = .ok (.lload 9, 2) := by decide +kernel
theorem dX2_root_101 : decode cX2_root 101 = .ok (.ldc2_w 167, 3) := by decide +kernel
theorem dX2_root_104 : decode cX2_root 104 = .ok (.lcmp, 1) := by decide +kernel
theorem dX2_root_105 : decode cX2_root 105 = .ok (.ifCond .ge 37, 3) := by decide +kernel
theorem dX2_root_108 : decode cX2_root 108 = .ok (.aload_n 0, 1) := by decide +kernel
theorem dX2_root_109 : decode cX2_root 109 = .ok (.getfield 24, 3) := by decide +kernel
theorem dX2_root_112 : decode cX2_root 112 = .ok (.lload 9, 2) := by decide +kernel
theorem dX2_root_114 : decode cX2_root 114 = .ok (.lload 9, 2) := by decide +kernel
theorem dX2_root_116 : decode cX2_root 116 = .ok (.invokevirtual 119, 3) := by decide +kernel
theorem dX2_root_119 : decode cX2_root 119 = .ok (.aload_n 0, 1) := by decide +kernel
theorem dX2_root_120 : decode cX2_root 120 = .ok (.getfield 24, 3) := by decide +kernel
theorem dX2_root_123 : decode cX2_root 123 = .ok (.aload_n 0, 1) := by decide +kernel
theorem dX2_root_124 : decode cX2_root 124 = .ok (.getfield 28, 3) := by decide +kernel
theorem dX2_root_127 : decode cX2_root 127 = .ok (.invokevirtual 102, 3) := by decide +kernel
theorem dX2_root_130 : decode cX2_root 130 = .ok (.ifCond .gt 8, 3) := by decide +kernel
theorem dX2_root_133 : decode cX2_root 133 = .ok (.lload 9, 2) := by decide +kernel
theorem dX2_root_135 : decode cX2_root 135 = .ok (.goto 5, 3) := by decide +kernel
theorem dX2_root_138 : decode cX2_root 138 = .ok (.lload 6, 2) := by decide +kernel
theorem dX2_root_140 : decode cX2_root 140 = .ok (.lstore 6, 2) := by decide +kernel
theorem dX2_root_142 : decode cX2_root 142 = .ok (.iinc 8 (-1), 3) := by decide +kernel
theorem dX2_root_145 : decode cX2_root 145 = .ok (.goto (-60), 3) := by decide +kernel
theorem dX2_root_148 : decode cX2_root 148 = .ok (.aload_n 0, 1) := by decide +kernel
theorem dX2_root_149 : decode cX2_root 149 = .ok (.getfield 24, 3) := by decide +kernel
theorem dX2_root_152 : decode cX2_root 152 = .ok (.lload 6, 2) := by decide +kernel
theorem dX2_root_154 : decode cX2_root 154 = .ok (.lload 6, 2) := by decide +kernel
theorem dX2_root_156 : decode cX2_root 156 = .ok (.invokevirtual 119, 3) := by decide +kernel
theorem dX2_root_159 : decode cX2_root 159 = .ok (.aload_n 0, 1) := by decide +kernel
theorem dX2_root_160 : decode cX2_root 160 = .ok (.getfield 24, 3) := by decide +kernel
theorem dX2_root_163 : decode cX2_root 163 = .ok (.aload_n 0, 1) := by decide +kernel
theorem dX2_root_164 : decode cX2_root 164 = .ok (.getfield 28, 3) := by decide +kernel
theorem dX2_root_167 : decode cX2_root 167 = .ok (.invokevirtual 102, 3) := by decide +kernel
theorem dX2_root_170 : decode cX2_root 170 = .ok (.ifCond .ge 7, 3) := by decide +kernel
theorem dX2_root_173 : decode cX2_root 173 = .ok (.iconst 1, 1) := by decide +kernel
theorem dX2_root_174 : decode cX2_root 174 = .ok (.goto 4, 3) := by decide +kernel
theorem dX2_root_177 : decode cX2_root 177 = .ok (.iconst 0, 1) := by decide +kernel
theorem dX2_root_178 : decode cX2_root 178 = .ok (.istore 8, 2) := by decide +kernel
theorem dX2_root_180 : decode cX2_root 180 = .ok (.aload_n 0, 1) := by decide +kernel
theorem dX2_root_181 : decode cX2_root 181 = .ok (.getfield 24, 3) := by decide +kernel
theorem dX2_root_184 : decode cX2_root 184 = .ok (.lload 6, 2) := by decide +kernel
theorem dX2_root_186 : decode cX2_root 186 = .ok (.invokevirtual 79, 3) := by decide +kernel
theorem dX2_root_189 : decode cX2_root 189 = .ok (.aload_n 0, 1) := by decide +kernel
theorem dX2_root_190 : decode cX2_root 190 = .ok (.iconst 0, 1) := by decide +kernel
theorem dX2_root_191 : decode cX2_root 191 = .ok (.iload 4, 2) := by decide +kernel
theorem dX2_root_193 : decode cX2_root 193 = .ok (.iload 5, 2) := by decide +kernel
theorem dX2_root_195 : decode cX2_root 195 = .ok (.isub, 1) := by decide +kernel
theorem dX2_root_196 : decode cX2_root 196 = .ok (.iconst 2, 1) := by decide +kernel
theorem dX2_root_197 : decode cX2_root 197 = .ok (.idiv, 1) := by decide +kernel
theorem dX2_root_198 : decode cX2_root 198 = .ok (.iload 8, 2) := by decide +kernel
theorem dX2_root_200 : decode cX2_root 200 = .ok (.invokevirtual 83, 3) := by decide +kernel
theorem dX2_root_203 : decode cX2_root 203 = .ok (.ireturn, 1) := by decide +kernel
theorem dX2_wholeOf_0 : decode cX2_wholeOf 0 = .ok (.aload_n 0, 1) := by decide +kernel
theorem dX2_wholeOf_1 : decode cX2_wholeOf 1 = .ok (.iload_n 1, 1) := by decide +kernel
theorem dX2_wholeOf_2 : decode cX2_wholeOf 2 = .ok (.invokevirtual 127, 3) := by decide +kernel
theorem dX2_wholeOf_5 : decode cX2_wholeOf 5 = .ok (.aload_n 0, 1) := by decide +kernel
theorem dX2_wholeOf_6 : decode cX2_wholeOf 6 = .ok (.getfield 51, 3) := by decide +kernel
theorem dX2_wholeOf_9 : decode cX2_wholeOf 9 = .ok (.ifCond .lt 5, 3) := by decide +kernel
theorem dX2_wholeOf_12 : decode cX2_wholeOf 12 = .ok (.iconst 0, 1) := by decide +kernel
theorem dX2_wholeOf_13 : decode cX2_wholeOf 13 = .ok (.ireturn, 1) := by decide +kernel
theorem dX2_wholeOf_14 : decode cX2_wholeOf 14 = .ok (.aload_n 0, 1) := by decide +kernel
theorem dX2_wholeOf_15 : decode cX2_wholeOf 15 = .ok (.getfield 51, 3) := by decide +kernel
theorem dX2_wholeOf_18 : decode cX2_wholeOf 18 = .ok (.ineg, 1) := by decide +kernel
theorem dX2_wholeOf_19 : decode cX2_wholeOf 19 = .ok (.istore_n 3, 1) := by decide +kernel
theorem dX2_wholeOf_20 : decode cX2_wholeOf 20 = .ok (.iload_n 3, 1) := by decide +kernel
theorem dX2_wholeOf_21 : decode cX2_wholeOf 21 = .ok (.bipush 53, 2) := by decide +kernel
theorem dX2_wholeOf_23 : decode cX2_wholeOf 23 = .ok (.if_icmp .le 7, 3) := by decide +kernel
theorem dX2_wholeOf_26 : decode cX2_wholeOf 26 = .ok (.lconst 0, 1) := by decide +kernel
theorem dX2_wholeOf_27 : decode cX2_wholeOf 27 = .ok (.goto 9, 3) := by decide +kernel
theorem dX2_wholeOf_30 : decode cX2_wholeOf 30 = .ok (.aload_n 0, 1) := by decide +kernel
theorem dX2_wholeOf_31 : decode cX2_wholeOf 31 = .ok (.getfield 47, 3) := by decide +kernel
theorem dX2_wholeOf_34 : decode cX2_wholeOf 34 = .ok (.iload_n 3, 1) := by decide +kernel
theorem dX2_wholeOf_35 : decode cX2_wholeOf 35 = .ok (.lshr, 1) := by decide +kernel
theorem dX2_wholeOf_36 : decode cX2_wholeOf 36 = .ok (.lstore 4, 2) := by decide +kernel
theorem dX2_wholeOf_38 : decode cX2_wholeOf 38 = .ok (.iload_n 3, 1) := by decide +kernel
theorem dX2_wholeOf_39 : decode cX2_wholeOf 39 = .ok (.bipush 53, 2) := by decide +kernel
theorem dX2_wholeOf_41 : decode cX2_wholeOf 41 = .ok (.if_icmp .gt 22, 3) := by decide +kernel
theorem dX2_wholeOf_44 : decode cX2_wholeOf 44 = .ok (.aload_n 0, 1) := by decide +kernel
theorem dX2_wholeOf_45 : decode cX2_wholeOf 45 = .ok (.getfield 47, 3) := by decide +kernel
theorem dX2_wholeOf_48 : decode cX2_wholeOf 48 = .ok (.iload_n 3, 1) := by decide +kernel
theorem dX2_wholeOf_49 : decode cX2_wholeOf 49 = .ok (.iconst 1, 1) := by decide +kernel
theorem dX2_wholeOf_50 : decode cX2_wholeOf 50 = .ok (.isub, 1) := by decide +kernel
theorem dX2_wholeOf_51 : decode cX2_wholeOf 51 = .ok (.lshr, 1) := by decide +kernel
theorem dX2_wholeOf_52 : decode cX2_wholeOf 52 = .ok (.lconst 1, 1) := by decide +kernel
theorem dX2_wholeOf_53 : decode cX2_wholeOf 53 = .ok (.land, 1) := by decide +kernel
theorem dX2_wholeOf_54 : decode cX2_wholeOf 54 = .ok (.lconst 1, 1) := by decide +kernel
theorem dX2_wholeOf_55 : decode cX2_wholeOf 55 = .ok (.lcmp, 1) := by decide +kernel
theorem dX2_wholeOf_56 : decode cX2_wholeOf 56 = .ok (.ifCond .ne 7, 3) := by decide +kernel
theorem dX2_wholeOf_59 : decode cX2_wholeOf 59 = .ok (.iconst 1, 1) := by decide +kernel
theorem dX2_wholeOf_60 : decode cX2_wholeOf 60 = .ok (.goto 4, 3) := by decide +kernel
theorem dX2_wholeOf_63 : decode cX2_wholeOf 63 = .ok (.iconst 0, 1) := by decide +kernel
theorem dX2_wholeOf_64 : decode cX2_wholeOf 64 = .ok (.istore 6, 2) := by decide +kernel
theorem dX2_wholeOf_66 : decode cX2_wholeOf 66 = .ok (.iload_n 3, 1) := by decide +kernel
theorem dX2_wholeOf_67 : decode cX2_wholeOf 67 = .ok (.bipush 53, 2) := by decide +kernel
theorem dX2_wholeOf_69 : decode cX2_wholeOf 69 = .ok (.if_icmp .le 20, 3) := by decide +kernel
theorem dX2_wholeOf_72 : decode cX2_wholeOf 72 = .ok (.aload_n 0, 1) := by decide +kernel
theorem dX2_wholeOf_73 : decode cX2_wholeOf 73 = .ok (.getfield 47, 3) := by decide +kernel
theorem dX2_wholeOf_76 : decode cX2_wholeOf 76 = .ok (.lconst 0, 1) := by decide +kernel
theorem dX2_wholeOf_77 : decode cX2_wholeOf 77 = .ok (.lcmp, 1) := by decide +kernel
theorem dX2_wholeOf_78 : decode cX2_wholeOf 78 = .ok (.ifCond .le 7, 3) := by decide +kernel
theorem dX2_wholeOf_81 : decode cX2_wholeOf 81 = .ok (.iconst 1, 1) := by decide +kernel
theorem dX2_wholeOf_82 : decode cX2_wholeOf 82 = .ok (.goto 29, 3) := by decide +kernel
theorem dX2_wholeOf_85 : decode cX2_wholeOf 85 = .ok (.iconst 0, 1) := by decide +kernel
theorem dX2_wholeOf_86 : decode cX2_wholeOf 86 = .ok (.goto 25, 3) := by decide +kernel
theorem dX2_wholeOf_89 : decode cX2_wholeOf 89 = .ok (.aload_n 0, 1) := by decide +kernel
theorem dX2_wholeOf_90 : decode cX2_wholeOf 90 = .ok (.getfield 47, 3) := by decide +kernel
theorem dX2_wholeOf_93 : decode cX2_wholeOf 93 = .ok (.lconst 1, 1) := by decide +kernel
theorem dX2_wholeOf_94 : decode cX2_wholeOf 94 = .ok (.iload_n 3, 1) := by decide +kernel
theorem dX2_wholeOf_95 : decode cX2_wholeOf 95 = .ok (.iconst 1, 1) := by decide +kernel
theorem dX2_wholeOf_96 : decode cX2_wholeOf 96 = .ok (.isub, 1) := by decide +kernel
theorem dX2_wholeOf_97 : decode cX2_wholeOf 97 = .ok (.lshl, 1) := by decide +kernel
theorem dX2_wholeOf_98 : decode cX2_wholeOf 98 = .ok (.lconst 1, 1) := by decide +kernel
theorem dX2_wholeOf_99 : decode cX2_wholeOf 99 = .ok (.lsub, 1) := by decide +kernel
theorem dX2_wholeOf_100 : decode cX2_wholeOf 100 = .ok (.land, 1) := by decide +kernel
theorem dX2_wholeOf_101 : decode cX2_wholeOf 101 = .ok (.lconst 0, 1) := by decide +kernel
theorem dX2_wholeOf_102 : decode cX2_wholeOf 102 = .ok (.lcmp, 1) := by decide +kernel
theorem dX2_wholeOf_103 : decode cX2_wholeOf 103 = .ok (.ifCond .le 7, 3) := by decide +kernel
theorem dX2_wholeOf_106 : decode cX2_wholeOf 106 = .ok (.iconst 1, 1) := by decide +kernel
theorem dX2_wholeOf_107 : decode cX2_wholeOf 107 = .ok (.goto 4, 3) := by decide +kernel
theorem dX2_wholeOf_110 : decode cX2_wholeOf 110 = .ok (.iconst 0, 1) := by decide +kernel
theorem dX2_wholeOf_111 : decode cX2_wholeOf 111 = .ok (.istore 7, 2) := by decide +kernel
theorem dX2_wholeOf_113 : decode cX2_wholeOf 113 = .ok (.iload 6, 2) := by decide +kernel
theorem dX2_wholeOf_115 : decode cX2_wholeOf 115 = .ok (.ifCond .ne 8, 3) := by decide +kernel
theorem dX2_wholeOf_118 : decode cX2_wholeOf 118 = .ok (.iload 7, 2) := by decide +kernel
theorem dX2_wholeOf_120 : decode cX2_wholeOf 120 = .ok (.ifCond .eq 7, 3) := by decide +kernel
theorem dX2_wholeOf_123 : decode cX2_wholeOf 123 = .ok (.iconst 1, 1) := by decide +kernel
theorem dX2_wholeOf_124 : decode cX2_wholeOf 124 = .ok (.goto 4, 3) := by decide +kernel
theorem dX2_wholeOf_127 : decode cX2_wholeOf 127 = .ok (.iconst 0, 1) := by decide +kernel
theorem dX2_wholeOf_128 : decode cX2_wholeOf 128 = .ok (.istore 8, 2) := by decide +kernel
theorem dX2_wholeOf_130 : decode cX2_wholeOf 130 = .ok (.iload_n 2, 1) := by decide +kernel
theorem dX2_wholeOf_131 : decode cX2_wholeOf 131 = .ok (.ifCond .ne 23, 3) := by decide +kernel
theorem dX2_wholeOf_134 : decode cX2_wholeOf 134 = .ok (.aload_n 0, 1) := by decide +kernel
theorem dX2_wholeOf_135 : decode cX2_wholeOf 135 = .ok (.getfield 39, 3) := by decide +kernel
theorem dX2_wholeOf_138 : decode cX2_wholeOf 138 = .ok (.ifCond .eq 12, 3) := by decide +kernel
theorem dX2_wholeOf_141 : decode cX2_wholeOf 141 = .ok (.iload 8, 2) := by decide +kernel
theorem dX2_wholeOf_143 : decode cX2_wholeOf 143 = .ok (.ifCond .eq 7, 3) := by decide +kernel
theorem dX2_wholeOf_146 : decode cX2_wholeOf 146 = .ok (.iconst 1, 1) := by decide +kernel
theorem dX2_wholeOf_147 : decode cX2_wholeOf 147 = .ok (.goto 63, 3) := by decide +kernel
theorem dX2_wholeOf_150 : decode cX2_wholeOf 150 = .ok (.iconst 0, 1) := by decide +kernel
theorem dX2_wholeOf_151 : decode cX2_wholeOf 151 = .ok (.goto 59, 3) := by decide +kernel
theorem dX2_wholeOf_154 : decode cX2_wholeOf 154 = .ok (.iload_n 2, 1) := by decide +kernel
theorem dX2_wholeOf_155 : decode cX2_wholeOf 155 = .ok (.iconst 1, 1) := by decide +kernel
theorem dX2_wholeOf_156 : decode cX2_wholeOf 156 = .ok (.if_icmp .ne 23, 3) := by decide +kernel
theorem dX2_wholeOf_159 : decode cX2_wholeOf 159 = .ok (.aload_n 0, 1) := by decide +kernel
theorem dX2_wholeOf_160 : decode cX2_wholeOf 160 = .ok (.getfield 39, 3) := by decide +kernel
theorem dX2_wholeOf_163 : decode cX2_wholeOf 163 = .ok (.ifCond .ne 12, 3) := by decide +kernel
theorem dX2_wholeOf_166 : decode cX2_wholeOf 166 = .ok (.iload 8, 2) := by decide +kernel
theorem dX2_wholeOf_168 : decode cX2_wholeOf 168 = .ok (.ifCond .eq 7, 3) := by decide +kernel
theorem dX2_wholeOf_171 : decode cX2_wholeOf 171 = .ok (.iconst 1, 1) := by decide +kernel
theorem dX2_wholeOf_172 : decode cX2_wholeOf 172 = .ok (.goto 38, 3) := by decide +kernel
theorem dX2_wholeOf_175 : decode cX2_wholeOf 175 = .ok (.iconst 0, 1) := by decide +kernel
theorem dX2_wholeOf_176 : decode cX2_wholeOf 176 = .ok (.goto 34, 3) := by decide +kernel
theorem dX2_wholeOf_179 : decode cX2_wholeOf 179 = .ok (.iload_n 2, 1) := by decide +kernel
theorem dX2_wholeOf_180 : decode cX2_wholeOf 180 = .ok (.iconst 3, 1) := by decide +kernel
theorem dX2_wholeOf_181 : decode cX2_wholeOf 181 = .ok (.if_icmp .ne 28, 3) := by decide +kernel
theorem dX2_wholeOf_184 : decode cX2_wholeOf 184 = .ok (.iload 6, 2) := by decide +kernel
theorem dX2_wholeOf_186 : decode cX2_wholeOf 186 = .ok (.ifCond .eq 23, 3) := by decide +kernel
theorem dX2_wholeOf_189 : decode cX2_wholeOf 189 = .ok (.iload 7, 2) := by decide +kernel
theorem dX2_wholeOf_191 : decode cX2_wholeOf 191 = .ok (.ifCond .ne 14, 3) := by decide +kernel
theorem dX2_wholeOf_194 : decode cX2_wholeOf 194 = .ok (.lload 4, 2) := by decide +kernel
theorem dX2_wholeOf_196 : decode cX2_wholeOf 196 = .ok (.ldc2_w 61, 3) := by decide +kernel
theorem dX2_wholeOf_199 : decode cX2_wholeOf 199 = .ok (.lrem, 1) := by decide +kernel
theorem dX2_wholeOf_200 : decode cX2_wholeOf 200 = .ok (.lconst 1, 1) := by decide +kernel
theorem dX2_wholeOf_201 : decode cX2_wholeOf 201 = .ok (.lcmp, 1) := by decide +kernel
theorem dX2_wholeOf_202 : decode cX2_wholeOf 202 = .ok (.ifCond .ne 7, 3) := by decide +kernel
theorem dX2_wholeOf_205 : decode cX2_wholeOf 205 = .ok (.iconst 1, 1) := by decide +kernel
theorem dX2_wholeOf_206 : decode cX2_wholeOf 206 = .ok (.goto 4, 3) := by decide +kernel
theorem dX2_wholeOf_209 : decode cX2_wholeOf 209 = .ok (.iconst 0, 1) := by decide +kernel
theorem dX2_wholeOf_210 : decode cX2_wholeOf 210 = .ok (.istore 9, 2) := by decide +kernel
theorem dX2_wholeOf_212 : decode cX2_wholeOf 212 = .ok (.aload_n 0, 1) := by decide +kernel
theorem dX2_wholeOf_213 : decode cX2_wholeOf 213 = .ok (.iload 9, 2) := by decide +kernel
theorem dX2_wholeOf_215 : decode cX2_wholeOf 215 = .ok (.ifCond .eq 10, 3) := by decide +kernel
theorem dX2_wholeOf_218 : decode cX2_wholeOf 218 = .ok (.lload 4, 2) := by decide +kernel
theorem dX2_wholeOf_220 : decode cX2_wholeOf 220 = .ok (.lconst 1, 1) := by decide +kernel
theorem dX2_wholeOf_221 : decode cX2_wholeOf 221 = .ok (.ladd, 1) := by decide +kernel
theorem dX2_wholeOf_222 : decode cX2_wholeOf 222 = .ok (.goto 5, 3) := by decide +kernel
theorem dX2_wholeOf_225 : decode cX2_wholeOf 225 = .ok (.lload 4, 2) := by decide +kernel
theorem dX2_wholeOf_227 : decode cX2_wholeOf 227 = .ok (.putfield 47, 3) := by decide +kernel
theorem dX2_wholeOf_230 : decode cX2_wholeOf 230 = .ok (.aload_n 0, 1) := by decide +kernel
theorem dX2_wholeOf_231 : decode cX2_wholeOf 231 = .ok (.iconst 0, 1) := by decide +kernel
theorem dX2_wholeOf_232 : decode cX2_wholeOf 232 = .ok (.putfield 51, 3) := by decide +kernel
theorem dX2_wholeOf_235 : decode cX2_wholeOf 235 = .ok (.aload_n 0, 1) := by decide +kernel
theorem dX2_wholeOf_236 : decode cX2_wholeOf 236 = .ok (.invokevirtual 63, 3) := by decide +kernel
theorem dX2_wholeOf_239 : decode cX2_wholeOf 239 = .ok (.ireturn, 1) := by decide +kernel
theorem dX2_neighbour_0 : decode cX2_neighbour 0 = .ok (.aload_n 0, 1) := by decide +kernel
theorem dX2_neighbour_1 : decode cX2_neighbour 1 = .ok (.getfield 17, 3) := by decide +kernel
theorem dX2_neighbour_4 : decode cX2_neighbour 4 = .ok (.iload_n 1, 1) := by decide +kernel
theorem dX2_neighbour_5 : decode cX2_neighbour 5 = .ok (.iaload, 1) := by decide +kernel
theorem dX2_neighbour_6 : decode cX2_neighbour 6 = .ok (.sipush 1074, 3) := by decide +kernel
theorem dX2_neighbour_9 : decode cX2_neighbour 9 = .ok (.iadd, 1) := by decide +kernel
theorem dX2_neighbour_10 : decode cX2_neighbour 10 = .ok (.i2l, 1) := by decide +kernel
theorem dX2_neighbour_11 : decode cX2_neighbour 11 = .ok (.bipush 52, 2) := by decide +kernel
theorem dX2_neighbour_13 : decode cX2_neighbour 13 = .ok (.lshl, 1) := by decide +kernel
theorem dX2_neighbour_14 : decode cX2_neighbour 14 = .ok (.aload_n 0, 1) := by decide +kernel
theorem dX2_neighbour_15 : decode cX2_neighbour 15 = .ok (.getfield 13, 3) := by decide +kernel
theorem dX2_neighbour_18 : decode cX2_neighbour 18 = .ok (.iload_n 1, 1) := by decide +kernel
theorem dX2_neighbour_19 : decode cX2_neighbour 19 = .ok (.laload, 1) := by decide +kernel
theorem dX2_neighbour_20 : decode cX2_neighbour 20 = .ok (.ladd, 1) := by decide +kernel
theorem dX2_neighbour_21 : decode cX2_neighbour 21 = .ok (.lstore_n 3, 1) := by decide +kernel
theorem dX2_neighbour_22 : decode cX2_neighbour 22 = .ok (.ldc2_w 169, 3) := by decide +kernel
theorem dX2_neighbour_25 : decode cX2_neighbour 25 = .ok (.lstore 5, 2) := by decide +kernel
theorem dX2_neighbour_27 : decode cX2_neighbour 27 = .ok (.aload_n 0, 1) := by decide +kernel
theorem dX2_neighbour_28 : decode cX2_neighbour 28 = .ok (.getfield 7, 3) := by decide +kernel
theorem dX2_neighbour_31 : decode cX2_neighbour 31 = .ok (.iload_n 1, 1) := by decide +kernel
theorem dX2_neighbour_32 : decode cX2_neighbour 32 = .ok (.baload, 1) := by decide +kernel
theorem dX2_neighbour_33 : decode cX2_neighbour 33 = .ok (.ifCond .eq 8, 3) := by decide +kernel
theorem dX2_neighbour_36 : decode cX2_neighbour 36 = .ok (.lload_n 3, 1) := by decide +kernel
theorem dX2_neighbour_37 : decode cX2_neighbour 37 = .ok (.lneg, 1) := by decide +kernel
theorem dX2_neighbour_38 : decode cX2_neighbour 38 = .ok (.goto 4, 3) := by decide +kernel
theorem dX2_neighbour_41 : decode cX2_neighbour 41 = .ok (.lload_n 3, 1) := by decide +kernel
theorem dX2_neighbour_42 : decode cX2_neighbour 42 = .ok (.lstore_n 3, 1) := by decide +kernel
theorem dX2_neighbour_43 : decode cX2_neighbour 43 = .ok (.iload_n 2, 1) := by decide +kernel
theorem dX2_neighbour_44 : decode cX2_neighbour 44 = .ok (.ifCond .eq 9, 3) := by decide +kernel
theorem dX2_neighbour_47 : decode cX2_neighbour 47 = .ok (.lload_n 3, 1) := by decide +kernel
theorem dX2_neighbour_48 : decode cX2_neighbour 48 = .ok (.lconst 1, 1) := by decide +kernel
theorem dX2_neighbour_49 : decode cX2_neighbour 49 = .ok (.ladd, 1) := by decide +kernel
theorem dX2_neighbour_50 : decode cX2_neighbour 50 = .ok (.goto 6, 3) := by decide +kernel
theorem dX2_neighbour_53 : decode cX2_neighbour 53 = .ok (.lload_n 3, 1) := by decide +kernel
theorem dX2_neighbour_54 : decode cX2_neighbour 54 = .ok (.lconst 1, 1) := by decide +kernel
theorem dX2_neighbour_55 : decode cX2_neighbour 55 = .ok (.lsub, 1) := by decide +kernel
theorem dX2_neighbour_56 : decode cX2_neighbour 56 = .ok (.lstore_n 3, 1) := by decide +kernel
theorem dX2_neighbour_57 : decode cX2_neighbour 57 = .ok (.lload_n 3, 1) := by decide +kernel
theorem dX2_neighbour_58 : decode cX2_neighbour 58 = .ok (.lconst 0, 1) := by decide +kernel
theorem dX2_neighbour_59 : decode cX2_neighbour 59 = .ok (.lcmp, 1) := by decide +kernel
theorem dX2_neighbour_60 : decode cX2_neighbour 60 = .ok (.ifCond .ge 8, 3) := by decide +kernel
theorem dX2_neighbour_63 : decode cX2_neighbour 63 = .ok (.lload_n 3, 1) := by decide +kernel
theorem dX2_neighbour_64 : decode cX2_neighbour 64 = .ok (.lneg, 1) := by decide +kernel
theorem dX2_neighbour_65 : decode cX2_neighbour 65 = .ok (.goto 4, 3) := by decide +kernel
theorem dX2_neighbour_68 : decode cX2_neighbour 68 = .ok (.lload_n 3, 1) := by decide +kernel
theorem dX2_neighbour_69 : decode cX2_neighbour 69 = .ok (.lstore 7, 2) := by decide +kernel
theorem dX2_neighbour_71 : decode cX2_neighbour 71 = .ok (.lload 7, 2) := by decide +kernel
theorem dX2_neighbour_73 : decode cX2_neighbour 73 = .ok (.lload 5, 2) := by decide +kernel
theorem dX2_neighbour_75 : decode cX2_neighbour 75 = .ok (.lcmp, 1) := by decide +kernel
theorem dX2_neighbour_76 : decode cX2_neighbour 76 = .ok (.ifCond .le 5, 3) := by decide +kernel
theorem dX2_neighbour_79 : decode cX2_neighbour 79 = .ok (.iconst (-1), 1) := by decide +kernel
theorem dX2_neighbour_80 : decode cX2_neighbour 80 = .ok (.ireturn, 1) := by decide +kernel
theorem dX2_neighbour_81 : decode cX2_neighbour 81 = .ok (.aload_n 0, 1) := by decide +kernel
theorem dX2_neighbour_82 : decode cX2_neighbour 82 = .ok (.lload_n 3, 1) := by decide +kernel
theorem dX2_neighbour_83 : decode cX2_neighbour 83 = .ok (.lconst 0, 1) := by decide +kernel
theorem dX2_neighbour_84 : decode cX2_neighbour 84 = .ok (.lcmp, 1) := by decide +kernel
theorem dX2_neighbour_85 : decode cX2_neighbour 85 = .ok (.ifCond .ge 7, 3) := by decide +kernel
theorem dX2_neighbour_88 : decode cX2_neighbour 88 = .ok (.iconst 1, 1) := by decide +kernel
theorem dX2_neighbour_89 : decode cX2_neighbour 89 = .ok (.goto 4, 3) := by decide +kernel
theorem dX2_neighbour_92 : decode cX2_neighbour 92 = .ok (.iconst 0, 1) := by decide +kernel
theorem dX2_neighbour_93 : decode cX2_neighbour 93 = .ok (.putfield 39, 3) := by decide +kernel
theorem dX2_neighbour_96 : decode cX2_neighbour 96 = .ok (.aload_n 0, 1) := by decide +kernel
theorem dX2_neighbour_97 : decode cX2_neighbour 97 = .ok (.lload 7, 2) := by decide +kernel
theorem dX2_neighbour_99 : decode cX2_neighbour 99 = .ok (.ldc2_w 66, 3) := by decide +kernel
theorem dX2_neighbour_102 : decode cX2_neighbour 102 = .ok (.lcmp, 1) := by decide +kernel
theorem dX2_neighbour_103 : decode cX2_neighbour 103 = .ok (.ifCond .ge 9, 3) := by decide +kernel
theorem dX2_neighbour_106 : decode cX2_neighbour 106 = .ok (.sipush (-1074), 3) := by decide +kernel
theorem dX2_neighbour_109 : decode cX2_neighbour 109 = .ok (.goto 15, 3) := by decide +kernel
theorem dX2_neighbour_112 : decode cX2_neighbour 112 = .ok (.lload 7, 2) := by decide +kernel
theorem dX2_neighbour_114 : decode cX2_neighbour 114 = .ok (.bipush 52, 2) := by decide +kernel
theorem dX2_neighbour_116 : decode cX2_neighbour 116 = .ok (.lshr, 1) := by decide +kernel
theorem dX2_neighbour_117 : decode cX2_neighbour 117 = .ok (.l2i, 1) := by decide +kernel
theorem dX2_neighbour_118 : decode cX2_neighbour 118 = .ok (.iconst 1, 1) := by decide +kernel
theorem dX2_neighbour_119 : decode cX2_neighbour 119 = .ok (.isub, 1) := by decide +kernel
theorem dX2_neighbour_120 : decode cX2_neighbour 120 = .ok (.sipush 1074, 3) := by decide +kernel
theorem dX2_neighbour_123 : decode cX2_neighbour 123 = .ok (.isub, 1) := by decide +kernel
theorem dX2_neighbour_124 : decode cX2_neighbour 124 = .ok (.putfield 51, 3) := by decide +kernel
theorem dX2_neighbour_127 : decode cX2_neighbour 127 = .ok (.aload_n 0, 1) := by decide +kernel
theorem dX2_neighbour_128 : decode cX2_neighbour 128 = .ok (.lload 7, 2) := by decide +kernel
theorem dX2_neighbour_130 : decode cX2_neighbour 130 = .ok (.aload_n 0, 1) := by decide +kernel
theorem dX2_neighbour_131 : decode cX2_neighbour 131 = .ok (.getfield 51, 3) := by decide +kernel
theorem dX2_neighbour_134 : decode cX2_neighbour 134 = .ok (.sipush 1074, 3) := by decide +kernel
theorem dX2_neighbour_137 : decode cX2_neighbour 137 = .ok (.iadd, 1) := by decide +kernel
theorem dX2_neighbour_138 : decode cX2_neighbour 138 = .ok (.i2l, 1) := by decide +kernel
theorem dX2_neighbour_139 : decode cX2_neighbour 139 = .ok (.bipush 52, 2) := by decide +kernel
theorem dX2_neighbour_141 : decode cX2_neighbour 141 = .ok (.lshl, 1) := by decide +kernel
theorem dX2_neighbour_142 : decode cX2_neighbour 142 = .ok (.lsub, 1) := by decide +kernel
theorem dX2_neighbour_143 : decode cX2_neighbour 143 = .ok (.putfield 47, 3) := by decide +kernel
theorem dX2_neighbour_146 : decode cX2_neighbour 146 = .ok (.iconst 0, 1) := by decide +kernel
theorem dX2_neighbour_147 : decode cX2_neighbour 147 = .ok (.ireturn, 1) := by decide +kernel
theorem dX2_changed_0 : decode cX2_changed 0 = .ok (.iload_n 1, 1) := by decide +kernel
theorem dX2_changed_1 : decode cX2_changed 1 = .ok (.tableswitch 148 0 8 #[51, 83, 95, 148, 148, 148, 148, 134, 141], 51) := by decide +kernel
theorem dX2_changed_52 : decode cX2_changed 52 = .ok (.aload_n 0, 1) := by decide +kernel
theorem dX2_changed_53 : decode cX2_changed 53 = .ok (.iload_n 2, 1) := by decide +kernel
theorem dX2_changed_54 : decode cX2_changed 54 = .ok (.invokevirtual 127, 3) := by decide +kernel
theorem dX2_changed_57 : decode cX2_changed 57 = .ok (.aload_n 0, 1) := by decide +kernel
theorem dX2_changed_58 : decode cX2_changed 58 = .ok (.aload_n 0, 1) := by decide +kernel
theorem dX2_changed_59 : decode cX2_changed 59 = .ok (.getfield 39, 3) := by decide +kernel
theorem dX2_changed_62 : decode cX2_changed 62 = .ok (.ifCond .ne 16, 3) := by decide +kernel
theorem dX2_changed_65 : decode cX2_changed 65 = .ok (.aload_n 0, 1) := by decide +kernel
theorem dX2_changed_66 : decode cX2_changed 66 = .ok (.getfield 47, 3) := by decide +kernel
theorem dX2_changed_69 : decode cX2_changed 69 = .ok (.lconst 0, 1) := by decide +kernel
theorem dX2_changed_70 : decode cX2_changed 70 = .ok (.lcmp, 1) := by decide +kernel
theorem dX2_changed_71 : decode cX2_changed 71 = .ok (.ifCond .le 7, 3) := by decide +kernel
theorem dX2_changed_74 : decode cX2_changed 74 = .ok (.iconst 1, 1) := by decide +kernel
theorem dX2_changed_75 : decode cX2_changed 75 = .ok (.goto 4, 3) := by decide +kernel
theorem dX2_changed_78 : decode cX2_changed 78 = .ok (.iconst 0, 1) := by decide +kernel
theorem dX2_changed_79 : decode cX2_changed 79 = .ok (.putfield 39, 3) := by decide +kernel
theorem dX2_changed_82 : decode cX2_changed 82 = .ok (.iconst 0, 1) := by decide +kernel
theorem dX2_changed_83 : decode cX2_changed 83 = .ok (.ireturn, 1) := by decide +kernel
theorem dX2_changed_84 : decode cX2_changed 84 = .ok (.aload_n 0, 1) := by decide +kernel
theorem dX2_changed_85 : decode cX2_changed 85 = .ok (.iload_n 2, 1) := by decide +kernel
theorem dX2_changed_86 : decode cX2_changed 86 = .ok (.invokevirtual 127, 3) := by decide +kernel
theorem dX2_changed_89 : decode cX2_changed 89 = .ok (.aload_n 0, 1) := by decide +kernel
theorem dX2_changed_90 : decode cX2_changed 90 = .ok (.iconst 0, 1) := by decide +kernel
theorem dX2_changed_91 : decode cX2_changed 91 = .ok (.putfield 39, 3) := by decide +kernel
theorem dX2_changed_94 : decode cX2_changed 94 = .ok (.iconst 0, 1) := by decide +kernel
theorem dX2_changed_95 : decode cX2_changed 95 = .ok (.ireturn, 1) := by decide +kernel
theorem dX2_changed_96 : decode cX2_changed 96 = .ok (.aload_n 0, 1) := by decide +kernel
theorem dX2_changed_97 : decode cX2_changed 97 = .ok (.getfield 7, 3) := by decide +kernel
theorem dX2_changed_100 : decode cX2_changed 100 = .ok (.iload_n 2, 1) := by decide +kernel
theorem dX2_changed_101 : decode cX2_changed 101 = .ok (.baload, 1) := by decide +kernel
theorem dX2_changed_102 : decode cX2_changed 102 = .ok (.ifCond .eq 8, 3) := by decide +kernel
theorem dX2_changed_105 : decode cX2_changed 105 = .ok (.bipush (-3), 2) := by decide +kernel
theorem dX2_changed_107 : decode cX2_changed 107 = .ok (.goto 27, 3) := by decide +kernel
theorem dX2_changed_110 : decode cX2_changed 110 = .ok (.aload_n 0, 1) := by decide +kernel
theorem dX2_changed_111 : decode cX2_changed 111 = .ok (.getfield 13, 3) := by decide +kernel
theorem dX2_changed_114 : decode cX2_changed 114 = .ok (.iload_n 2, 1) := by decide +kernel
theorem dX2_changed_115 : decode cX2_changed 115 = .ok (.laload, 1) := by decide +kernel
theorem dX2_changed_116 : decode cX2_changed 116 = .ok (.lconst 0, 1) := by decide +kernel
theorem dX2_changed_117 : decode cX2_changed 117 = .ok (.lcmp, 1) := by decide +kernel
theorem dX2_changed_118 : decode cX2_changed 118 = .ok (.ifCond .ne 11, 3) := by decide +kernel
theorem dX2_changed_121 : decode cX2_changed 121 = .ok (.aload_n 0, 1) := by decide +kernel
theorem dX2_changed_122 : decode cX2_changed 122 = .ok (.iload_n 2, 1) := by decide +kernel
theorem dX2_changed_123 : decode cX2_changed 123 = .ok (.invokevirtual 153, 3) := by decide +kernel
theorem dX2_changed_126 : decode cX2_changed 126 = .ok (.goto 8, 3) := by decide +kernel
theorem dX2_changed_129 : decode cX2_changed 129 = .ok (.aload_n 0, 1) := by decide +kernel
theorem dX2_changed_130 : decode cX2_changed 130 = .ok (.iload_n 2, 1) := by decide +kernel
theorem dX2_changed_131 : decode cX2_changed 131 = .ok (.invokevirtual 171, 3) := by decide +kernel
theorem dX2_changed_134 : decode cX2_changed 134 = .ok (.ireturn, 1) := by decide +kernel
theorem dX2_changed_135 : decode cX2_changed 135 = .ok (.aload_n 0, 1) := by decide +kernel
theorem dX2_changed_136 : decode cX2_changed 136 = .ok (.iload_n 2, 1) := by decide +kernel
theorem dX2_changed_137 : decode cX2_changed 137 = .ok (.iconst 1, 1) := by decide +kernel
theorem dX2_changed_138 : decode cX2_changed 138 = .ok (.invokevirtual 174, 3) := by decide +kernel
theorem dX2_changed_141 : decode cX2_changed 141 = .ok (.ireturn, 1) := by decide +kernel
theorem dX2_changed_142 : decode cX2_changed 142 = .ok (.aload_n 0, 1) := by decide +kernel
theorem dX2_changed_143 : decode cX2_changed 143 = .ok (.iload_n 2, 1) := by decide +kernel
theorem dX2_changed_144 : decode cX2_changed 144 = .ok (.iconst 0, 1) := by decide +kernel
theorem dX2_changed_145 : decode cX2_changed 145 = .ok (.invokevirtual 174, 3) := by decide +kernel
theorem dX2_changed_148 : decode cX2_changed 148 = .ok (.ireturn, 1) := by decide +kernel
theorem dX2_changed_149 : decode cX2_changed 149 = .ok (.aload_n 0, 1) := by decide +kernel
theorem dX2_changed_150 : decode cX2_changed 150 = .ok (.iload_n 2, 1) := by decide +kernel
theorem dX2_changed_151 : decode cX2_changed 151 = .ok (.iload_n 1, 1) := by decide +kernel
theorem dX2_changed_152 : decode cX2_changed 152 = .ok (.iconst 3, 1) := by decide +kernel
theorem dX2_changed_153 : decode cX2_changed 153 = .ok (.isub, 1) := by decide +kernel
theorem dX2_changed_154 : decode cX2_changed 154 = .ok (.invokevirtual 178, 3) := by decide +kernel
theorem dX2_changed_157 : decode cX2_changed 157 = .ok (.ireturn, 1) := by decide +kernel
theorem dX2_change_0 : decode cX2_change 0 = .ok (.aload_n 0, 1) := by decide +kernel
theorem dX2_change_1 : decode cX2_change 1 = .ok (.iload_n 1, 1) := by decide +kernel
theorem dX2_change_2 : decode cX2_change 2 = .ok (.invokestatic 70, 3) := by decide +kernel
theorem dX2_change_5 : decode cX2_change 5 = .ok (.ifCond .eq 24, 3) := by decide +kernel
theorem dX2_change_8 : decode cX2_change 8 = .ok (.iload_n 3, 1) := by decide +kernel
theorem dX2_change_9 : decode cX2_change 9 = .ok (.invokestatic 70, 3) := by decide +kernel
theorem dX2_change_12 : decode cX2_change 12 = .ok (.ifCond .eq 17, 3) := by decide +kernel
theorem dX2_change_15 : decode cX2_change 15 = .ok (.iload_n 2, 1) := by decide +kernel
theorem dX2_change_16 : decode cX2_change 16 = .ok (.iconst 0, 1) := by decide +kernel
theorem dX2_change_17 : decode cX2_change 17 = .ok (.bipush 8, 2) := by decide +kernel
theorem dX2_change_19 : decode cX2_change 19 = .ok (.invokestatic 75, 3) := by decide +kernel
theorem dX2_change_22 : decode cX2_change 22 = .ok (.ifCond .eq 7, 3) := by decide +kernel
theorem dX2_change_25 : decode cX2_change 25 = .ok (.iconst 0, 1) := by decide +kernel
theorem dX2_change_26 : decode cX2_change 26 = .ok (.goto 4, 3) := by decide +kernel
theorem dX2_change_29 : decode cX2_change 29 = .ok (.iconst 1, 1) := by decide +kernel
theorem dX2_change_30 : decode cX2_change 30 = .ok (.putfield 31, 3) := by decide +kernel
theorem dX2_change_33 : decode cX2_change 33 = .ok (.aload_n 0, 1) := by decide +kernel
theorem dX2_change_34 : decode cX2_change 34 = .ok (.getfield 31, 3) := by decide +kernel
theorem dX2_change_37 : decode cX2_change 37 = .ok (.ifCond .le 7, 3) := by decide +kernel
theorem dX2_change_40 : decode cX2_change 40 = .ok (.iconst 0, 1) := by decide +kernel
theorem dX2_change_41 : decode cX2_change 41 = .ok (.goto 14, 3) := by decide +kernel
theorem dX2_change_44 : decode cX2_change 44 = .ok (.aload_n 0, 1) := by decide +kernel
theorem dX2_change_45 : decode cX2_change 45 = .ok (.iload_n 1, 1) := by decide +kernel
theorem dX2_change_46 : decode cX2_change 46 = .ok (.aload_n 0, 1) := by decide +kernel
theorem dX2_change_47 : decode cX2_change 47 = .ok (.iload_n 2, 1) := by decide +kernel
theorem dX2_change_48 : decode cX2_change 48 = .ok (.iload_n 3, 1) := by decide +kernel
theorem dX2_change_49 : decode cX2_change 49 = .ok (.invokevirtual 181, 3) := by decide +kernel
theorem dX2_change_52 : decode cX2_change 52 = .ok (.invokevirtual 87, 3) := by decide +kernel
theorem dX2_change_55 : decode cX2_change 55 = .ok (.ireturn, 1) := by decide +kernel
theorem dX2_multiply_0 : decode cX2_multiply 0 = .ok (.aload_n 0, 1) := by decide +kernel
theorem dX2_multiply_1 : decode cX2_multiply 1 = .ok (.getfield 39, 3) := by decide +kernel
theorem dX2_multiply_4 : decode cX2_multiply 4 = .ok (.iload_n 1, 1) := by decide +kernel
theorem dX2_multiply_5 : decode cX2_multiply 5 = .ok (.if_icmp .eq 7, 3) := by decide +kernel
theorem dX2_multiply_8 : decode cX2_multiply 8 = .ok (.iconst 1, 1) := by decide +kernel
theorem dX2_multiply_9 : decode cX2_multiply 9 = .ok (.goto 4, 3) := by decide +kernel
theorem dX2_multiply_12 : decode cX2_multiply 12 = .ok (.iconst 0, 1) := by decide +kernel
theorem dX2_multiply_13 : decode cX2_multiply 13 = .ok (.istore 5, 2) := by decide +kernel
theorem dX2_multiply_15 : decode cX2_multiply 15 = .ok (.aload_n 0, 1) := by decide +kernel
theorem dX2_multiply_16 : decode cX2_multiply 16 = .ok (.getfield 24, 3) := by decide +kernel
theorem dX2_multiply_19 : decode cX2_multiply 19 = .ok (.aload_n 0, 1) := by decide +kernel
theorem dX2_multiply_20 : decode cX2_multiply 20 = .ok (.getfield 47, 3) := by decide +kernel
theorem dX2_multiply_23 : decode cX2_multiply 23 = .ok (.lload_n 2, 1) := by decide +kernel
theorem dX2_multiply_24 : decode cX2_multiply 24 = .ok (.invokevirtual 119, 3) := by decide +kernel
theorem dX2_multiply_27 : decode cX2_multiply 27 = .ok (.aload_n 0, 1) := by decide +kernel
theorem dX2_multiply_28 : decode cX2_multiply 28 = .ok (.iload 5, 2) := by decide +kernel
theorem dX2_multiply_30 : decode cX2_multiply 30 = .ok (.aload_n 0, 1) := by decide +kernel
theorem dX2_multiply_31 : decode cX2_multiply 31 = .ok (.getfield 51, 3) := by decide +kernel
theorem dX2_multiply_34 : decode cX2_multiply 34 = .ok (.iload 4, 2) := by decide +kernel
theorem dX2_multiply_36 : decode cX2_multiply 36 = .ok (.iadd, 1) := by decide +kernel
theorem dX2_multiply_37 : decode cX2_multiply 37 = .ok (.iconst 0, 1) := by decide +kernel
theorem dX2_multiply_38 : decode cX2_multiply 38 = .ok (.invokevirtual 83, 3) := by decide +kernel
theorem dX2_multiply_41 : decode cX2_multiply 41 = .ok (.ireturn, 1) := by decide +kernel
theorem dX2_raised_0 : decode cX2_raised 0 = .ok (.iload_n 2, 1) := by decide +kernel
theorem dX2_raised_1 : decode cX2_raised 1 = .ok (.ifCond .ge 8, 3) := by decide +kernel
theorem dX2_raised_4 : decode cX2_raised 4 = .ok (.iload_n 2, 1) := by decide +kernel
theorem dX2_raised_5 : decode cX2_raised 5 = .ok (.ineg, 1) := by decide +kernel
theorem dX2_raised_6 : decode cX2_raised 6 = .ok (.goto 4, 3) := by decide +kernel
theorem dX2_raised_9 : decode cX2_raised 9 = .ok (.iload_n 2, 1) := by decide +kernel
theorem dX2_raised_10 : decode cX2_raised 10 = .ok (.istore_n 3, 1) := by decide +kernel
theorem dX2_raised_11 : decode cX2_raised 11 = .ok (.aload_n 0, 1) := by decide +kernel
theorem dX2_raised_12 : decode cX2_raised 12 = .ok (.iload_n 1, 1) := by decide +kernel
theorem dX2_raised_13 : decode cX2_raised 13 = .ok (.invokevirtual 127, 3) := by decide +kernel
theorem dX2_raised_16 : decode cX2_raised 16 = .ok (.iload_n 2, 1) := by decide +kernel
theorem dX2_raised_17 : decode cX2_raised 17 = .ok (.ifCond .ne 21, 3) := by decide +kernel
theorem dX2_raised_20 : decode cX2_raised 20 = .ok (.aload_n 0, 1) := by decide +kernel
theorem dX2_raised_21 : decode cX2_raised 21 = .ok (.iconst 0, 1) := by decide +kernel
theorem dX2_raised_22 : decode cX2_raised 22 = .ok (.putfield 39, 3) := by decide +kernel
theorem dX2_raised_25 : decode cX2_raised 25 = .ok (.aload_n 0, 1) := by decide +kernel
theorem dX2_raised_26 : decode cX2_raised 26 = .ok (.ldc2_w 68, 3) := by decide +kernel
theorem dX2_raised_29 : decode cX2_raised 29 = .ok (.putfield 47, 3) := by decide +kernel
theorem dX2_raised_32 : decode cX2_raised 32 = .ok (.aload_n 0, 1) := by decide +kernel
theorem dX2_raised_33 : decode cX2_raised 33 = .ok (.bipush (-52), 2) := by decide +kernel
theorem dX2_raised_35 : decode cX2_raised 35 = .ok (.putfield 51, 3) := by decide +kernel
theorem dX2_raised_38 : decode cX2_raised 38 = .ok (.iconst 1, 1) := by decide +kernel
theorem dX2_raised_39 : decode cX2_raised 39 = .ok (.istore 4, 2) := by decide +kernel
theorem dX2_raised_41 : decode cX2_raised 41 = .ok (.iload 4, 2) := by decide +kernel
theorem dX2_raised_43 : decode cX2_raised 43 = .ok (.iload_n 3, 1) := by decide +kernel
theorem dX2_raised_44 : decode cX2_raised 44 = .ok (.iconst 2, 1) := by decide +kernel
theorem dX2_raised_45 : decode cX2_raised 45 = .ok (.idiv, 1) := by decide +kernel
theorem dX2_raised_46 : decode cX2_raised 46 = .ok (.if_icmp .gt 12, 3) := by decide +kernel
theorem dX2_raised_49 : decode cX2_raised 49 = .ok (.iconst 2, 1) := by decide +kernel
theorem dX2_raised_50 : decode cX2_raised 50 = .ok (.iload 4, 2) := by decide +kernel
theorem dX2_raised_52 : decode cX2_raised 52 = .ok (.imul, 1) := by decide +kernel
theorem dX2_raised_53 : decode cX2_raised 53 = .ok (.istore 4, 2) := by decide +kernel
theorem dX2_raised_55 : decode cX2_raised 55 = .ok (.goto (-14), 3) := by decide +kernel
theorem dX2_raised_58 : decode cX2_raised 58 = .ok (.iload 4, 2) := by decide +kernel
theorem dX2_raised_60 : decode cX2_raised 60 = .ok (.iconst 2, 1) := by decide +kernel
theorem dX2_raised_61 : decode cX2_raised 61 = .ok (.idiv, 1) := by decide +kernel
theorem dX2_raised_62 : decode cX2_raised 62 = .ok (.istore 5, 2) := by decide +kernel
theorem dX2_raised_64 : decode cX2_raised 64 = .ok (.iload 5, 2) := by decide +kernel
theorem dX2_raised_66 : decode cX2_raised 66 = .ok (.ifCond .le 69, 3) := by decide +kernel
theorem dX2_raised_69 : decode cX2_raised 69 = .ok (.aload_n 0, 1) := by decide +kernel
theorem dX2_raised_70 : decode cX2_raised 70 = .ok (.aload_n 0, 1) := by decide +kernel
theorem dX2_raised_71 : decode cX2_raised 71 = .ok (.getfield 39, 3) := by decide +kernel
theorem dX2_raised_74 : decode cX2_raised 74 = .ok (.aload_n 0, 1) := by decide +kernel
theorem dX2_raised_75 : decode cX2_raised 75 = .ok (.getfield 47, 3) := by decide +kernel
theorem dX2_raised_78 : decode cX2_raised 78 = .ok (.aload_n 0, 1) := by decide +kernel
theorem dX2_raised_79 : decode cX2_raised 79 = .ok (.getfield 51, 3) := by decide +kernel
theorem dX2_raised_82 : decode cX2_raised 82 = .ok (.invokevirtual 184, 3) := by decide +kernel
theorem dX2_raised_85 : decode cX2_raised 85 = .ok (.iconst (-1), 1) := by decide +kernel
theorem dX2_raised_86 : decode cX2_raised 86 = .ok (.if_icmp .ne 5, 3) := by decide +kernel
theorem dX2_raised_89 : decode cX2_raised 89 = .ok (.iconst (-1), 1) := by decide +kernel
theorem dX2_raised_90 : decode cX2_raised 90 = .ok (.ireturn, 1) := by decide +kernel
theorem dX2_raised_91 : decode cX2_raised 91 = .ok (.iload_n 3, 1) := by decide +kernel
theorem dX2_raised_92 : decode cX2_raised 92 = .ok (.iload 5, 2) := by decide +kernel
theorem dX2_raised_94 : decode cX2_raised 94 = .ok (.iand, 1) := by decide +kernel
theorem dX2_raised_95 : decode cX2_raised 95 = .ok (.ifCond .eq 31, 3) := by decide +kernel
theorem dX2_raised_98 : decode cX2_raised 98 = .ok (.aload_n 0, 1) := by decide +kernel
theorem dX2_raised_99 : decode cX2_raised 99 = .ok (.aload_n 0, 1) := by decide +kernel
