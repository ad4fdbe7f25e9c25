theorem dX0_root_70 : decode cX0_root 70 = .ok (.lstore 11, 2) := by decide +kernel
theorem dX0_root_72 : decode cX0_root 72 = .ok (.lload 8, 2) := by decide +kernel
theorem dX0_root_74 : decode cX0_root 74 = .ok (.iconst 2, 1) := by decide +kernel
theorem dX0_root_75 : decode cX0_root 75 = .ok (.lshl, 1) := by decide +kernel
theorem dX0_root_76 : decode cX0_root 76 = .ok (.lload 11, 2) := by decide +kernel
theorem dX0_root_78 : decode cX0_root 78 = .ok (.lor, 1) := by decide +kernel
theorem dX0_root_79 : decode cX0_root 79 = .ok (.lstore 8, 2) := by decide +kernel
theorem dX0_root_81 : decode cX0_root 81 = .ok (.lload 6, 2) := by decide +kernel
theorem dX0_root_83 : decode cX0_root 83 = .ok (.iconst 2, 1) := by decide +kernel
theorem dX0_root_84 : decode cX0_root 84 = .ok (.lshl, 1) := by decide +kernel
theorem dX0_root_85 : decode cX0_root 85 = .ok (.lconst 1, 1) := by decide +kernel
theorem dX0_root_86 : decode cX0_root 86 = .ok (.lor, 1) := by decide +kernel
theorem dX0_root_87 : decode cX0_root 87 = .ok (.lstore 13, 2) := by decide +kernel
theorem dX0_root_89 : decode cX0_root 89 = .ok (.lload 6, 2) := by decide +kernel
theorem dX0_root_91 : decode cX0_root 91 = .ok (.iconst 1, 1) := by decide +kernel
theorem dX0_root_92 : decode cX0_root 92 = .ok (.lshl, 1) := by decide +kernel
theorem dX0_root_93 : decode cX0_root 93 = .ok (.lstore 6, 2) := by decide +kernel
theorem dX0_root_95 : decode cX0_root 95 = .ok (.lload 8, 2) := by decide +kernel
theorem dX0_root_97 : decode cX0_root 97 = .ok (.lload 13, 2) := by decide +kernel
theorem dX0_root_99 : decode cX0_root 99 = .ok (.lcmp, 1) := by decide +kernel
theorem dX0_root_100 : decode cX0_root 100 = .ok (.ifCond .lt 16, 3) := by decide +kernel
theorem dX0_root_103 : decode cX0_root 103 = .ok (.lload 8, 2) := by decide +kernel
theorem dX0_root_105 : decode cX0_root 105 = .ok (.lload 13, 2) := by decide +kernel
theorem dX0_root_107 : decode cX0_root 107 = .ok (.lsub, 1) := by decide +kernel
theorem dX0_root_108 : decode cX0_root 108 = .ok (.lstore 8, 2) := by decide +kernel
theorem dX0_root_110 : decode cX0_root 110 = .ok (.lload 6, 2) := by decide +kernel
theorem dX0_root_112 : decode cX0_root 112 = .ok (.lconst 1, 1) := by decide +kernel
theorem dX0_root_113 : decode cX0_root 113 = .ok (.lor, 1) := by decide +kernel
theorem dX0_root_114 : decode cX0_root 114 = .ok (.lstore 6, 2) := by decide +kernel
theorem dX0_root_116 : decode cX0_root 116 = .ok (.iinc 10 1, 3) := by decide +kernel
theorem dX0_root_119 : decode cX0_root 119 = .ok (.goto (-80), 3) := by decide +kernel
theorem dX0_root_122 : decode cX0_root 122 = .ok (.lload 8, 2) := by decide +kernel
theorem dX0_root_124 : decode cX0_root 124 = .ok (.lconst 0, 1) := by decide +kernel
theorem dX0_root_125 : decode cX0_root 125 = .ok (.lcmp, 1) := by decide +kernel
theorem dX0_root_126 : decode cX0_root 126 = .ok (.ifCond .ne 8, 3) := by decide +kernel
theorem dX0_root_129 : decode cX0_root 129 = .ok (.lload 6, 2) := by decide +kernel
theorem dX0_root_131 : decode cX0_root 131 = .ok (.goto 7, 3) := by decide +kernel
theorem dX0_root_134 : decode cX0_root 134 = .ok (.lload 6, 2) := by decide +kernel
theorem dX0_root_136 : decode cX0_root 136 = .ok (.lconst 1, 1) := by decide +kernel
theorem dX0_root_137 : decode cX0_root 137 = .ok (.lor, 1) := by decide +kernel
theorem dX0_root_138 : decode cX0_root 138 = .ok (.lstore 10, 2) := by decide +kernel
theorem dX0_root_140 : decode cX0_root 140 = .ok (.lload 10, 2) := by decide +kernel
theorem dX0_root_142 : decode cX0_root 142 = .ok (.iload 5, 2) := by decide +kernel
theorem dX0_root_144 : decode cX0_root 144 = .ok (.iconst 2, 1) := by decide +kernel
theorem dX0_root_145 : decode cX0_root 145 = .ok (.idiv, 1) := by decide +kernel
theorem dX0_root_146 : decode cX0_root 146 = .ok (.bipush 29, 2) := by decide +kernel
theorem dX0_root_148 : decode cX0_root 148 = .ok (.isub, 1) := by decide +kernel
theorem dX0_root_149 : decode cX0_root 149 = .ok (.invokestatic 36, 3) := by decide +kernel
theorem dX0_root_152 : decode cX0_root 152 = .ok (.lreturn, 1) := by decide +kernel
theorem dX0_wholeNear_0 : decode cX0_wholeNear 0 = .ok (.lload_n 1, 1) := by decide +kernel
theorem dX0_wholeNear_1 : decode cX0_wholeNear 1 = .ok (.invokestatic 79, 3) := by decide +kernel
theorem dX0_wholeNear_4 : decode cX0_wholeNear 4 = .ok (.istore_n 3, 1) := by decide +kernel
theorem dX0_wholeNear_5 : decode cX0_wholeNear 5 = .ok (.iload_n 3, 1) := by decide +kernel
theorem dX0_wholeNear_6 : decode cX0_wholeNear 6 = .ok (.ifCond .lt 5, 3) := by decide +kernel
theorem dX0_wholeNear_9 : decode cX0_wholeNear 9 = .ok (.lload_n 1, 1) := by decide +kernel
theorem dX0_wholeNear_10 : decode cX0_wholeNear 10 = .ok (.lreturn, 1) := by decide +kernel
theorem dX0_wholeNear_11 : decode cX0_wholeNear 11 = .ok (.lload_n 1, 1) := by decide +kernel
theorem dX0_wholeNear_12 : decode cX0_wholeNear 12 = .ok (.invokestatic 76, 3) := by decide +kernel
theorem dX0_wholeNear_15 : decode cX0_wholeNear 15 = .ok (.lstore 4, 2) := by decide +kernel
theorem dX0_wholeNear_17 : decode cX0_wholeNear 17 = .ok (.iload_n 3, 1) := by decide +kernel
theorem dX0_wholeNear_18 : decode cX0_wholeNear 18 = .ok (.ineg, 1) := by decide +kernel
theorem dX0_wholeNear_19 : decode cX0_wholeNear 19 = .ok (.bipush 62, 2) := by decide +kernel
theorem dX0_wholeNear_21 : decode cX0_wholeNear 21 = .ok (.invokestatic 96, 3) := by decide +kernel
theorem dX0_wholeNear_24 : decode cX0_wholeNear 24 = .ok (.istore 6, 2) := by decide +kernel
theorem dX0_wholeNear_26 : decode cX0_wholeNear 26 = .ok (.lload 4, 2) := by decide +kernel
theorem dX0_wholeNear_28 : decode cX0_wholeNear 28 = .ok (.iload 6, 2) := by decide +kernel
theorem dX0_wholeNear_30 : decode cX0_wholeNear 30 = .ok (.lushr, 1) := by decide +kernel
theorem dX0_wholeNear_31 : decode cX0_wholeNear 31 = .ok (.lstore 7, 2) := by decide +kernel
theorem dX0_wholeNear_33 : decode cX0_wholeNear 33 = .ok (.lload 4, 2) := by decide +kernel
theorem dX0_wholeNear_35 : decode cX0_wholeNear 35 = .ok (.iload 6, 2) := by decide +kernel
theorem dX0_wholeNear_37 : decode cX0_wholeNear 37 = .ok (.invokestatic 100, 3) := by decide +kernel
theorem dX0_wholeNear_40 : decode cX0_wholeNear 40 = .ok (.lconst 0, 1) := by decide +kernel
theorem dX0_wholeNear_41 : decode cX0_wholeNear 41 = .ok (.lcmp, 1) := by decide +kernel
theorem dX0_wholeNear_42 : decode cX0_wholeNear 42 = .ok (.ifCond .ne 8, 3) := by decide +kernel
theorem dX0_wholeNear_45 : decode cX0_wholeNear 45 = .ok (.lload 7, 2) := by decide +kernel
theorem dX0_wholeNear_47 : decode cX0_wholeNear 47 = .ok (.goto 7, 3) := by decide +kernel
theorem dX0_wholeNear_50 : decode cX0_wholeNear 50 = .ok (.lload 7, 2) := by decide +kernel
theorem dX0_wholeNear_52 : decode cX0_wholeNear 52 = .ok (.lconst 1, 1) := by decide +kernel
theorem dX0_wholeNear_53 : decode cX0_wholeNear 53 = .ok (.ladd, 1) := by decide +kernel
theorem dX0_wholeNear_54 : decode cX0_wholeNear 54 = .ok (.lstore 9, 2) := by decide +kernel
theorem dX0_wholeNear_56 : decode cX0_wholeNear 56 = .ok (.iload_n 0, 1) := by decide +kernel
theorem dX0_wholeNear_57 : decode cX0_wholeNear 57 = .ok (.tableswitch 74 3 6 #[31, 49, 67, 74], 31) := by decide +kernel
theorem dX0_wholeNear_88 : decode cX0_wholeNear 88 = .ok (.lload_n 1, 1) := by decide +kernel
theorem dX0_wholeNear_89 : decode cX0_wholeNear 89 = .ok (.lconst 0, 1) := by decide +kernel
theorem dX0_wholeNear_90 : decode cX0_wholeNear 90 = .ok (.lcmp, 1) := by decide +kernel
theorem dX0_wholeNear_91 : decode cX0_wholeNear 91 = .ok (.ifCond .ge 8, 3) := by decide +kernel
theorem dX0_wholeNear_94 : decode cX0_wholeNear 94 = .ok (.lload 9, 2) := by decide +kernel
theorem dX0_wholeNear_96 : decode cX0_wholeNear 96 = .ok (.goto 5, 3) := by decide +kernel
theorem dX0_wholeNear_99 : decode cX0_wholeNear 99 = .ok (.lload 7, 2) := by decide +kernel
theorem dX0_wholeNear_101 : decode cX0_wholeNear 101 = .ok (.lstore 11, 2) := by decide +kernel
theorem dX0_wholeNear_103 : decode cX0_wholeNear 103 = .ok (.goto 37, 3) := by decide +kernel
theorem dX0_wholeNear_106 : decode cX0_wholeNear 106 = .ok (.lload_n 1, 1) := by decide +kernel
theorem dX0_wholeNear_107 : decode cX0_wholeNear 107 = .ok (.lconst 0, 1) := by decide +kernel
theorem dX0_wholeNear_108 : decode cX0_wholeNear 108 = .ok (.lcmp, 1) := by decide +kernel
theorem dX0_wholeNear_109 : decode cX0_wholeNear 109 = .ok (.ifCond .ge 8, 3) := by decide +kernel
theorem dX0_wholeNear_112 : decode cX0_wholeNear 112 = .ok (.lload 7, 2) := by decide +kernel
theorem dX0_wholeNear_114 : decode cX0_wholeNear 114 = .ok (.goto 5, 3) := by decide +kernel
theorem dX0_wholeNear_117 : decode cX0_wholeNear 117 = .ok (.lload 9, 2) := by decide +kernel
theorem dX0_wholeNear_119 : decode cX0_wholeNear 119 = .ok (.lstore 11, 2) := by decide +kernel
theorem dX0_wholeNear_121 : decode cX0_wholeNear 121 = .ok (.goto 19, 3) := by decide +kernel
theorem dX0_wholeNear_124 : decode cX0_wholeNear 124 = .ok (.lload 7, 2) := by decide +kernel
theorem dX0_wholeNear_126 : decode cX0_wholeNear 126 = .ok (.lstore 11, 2) := by decide +kernel
theorem dX0_wholeNear_128 : decode cX0_wholeNear 128 = .ok (.goto 12, 3) := by decide +kernel
theorem dX0_wholeNear_131 : decode cX0_wholeNear 131 = .ok (.lload 4, 2) := by decide +kernel
theorem dX0_wholeNear_133 : decode cX0_wholeNear 133 = .ok (.iload 6, 2) := by decide +kernel
theorem dX0_wholeNear_135 : decode cX0_wholeNear 135 = .ok (.invokestatic 156, 3) := by decide +kernel
theorem dX0_wholeNear_138 : decode cX0_wholeNear 138 = .ok (.lstore 11, 2) := by decide +kernel
theorem dX0_wholeNear_140 : decode cX0_wholeNear 140 = .ok (.lload 11, 2) := by decide +kernel
theorem dX0_wholeNear_142 : decode cX0_wholeNear 142 = .ok (.iconst 0, 1) := by decide +kernel
theorem dX0_wholeNear_143 : decode cX0_wholeNear 143 = .ok (.invokestatic 36, 3) := by decide +kernel
theorem dX0_wholeNear_146 : decode cX0_wholeNear 146 = .ok (.lload_n 1, 1) := by decide +kernel
theorem dX0_wholeNear_147 : decode cX0_wholeNear 147 = .ok (.invokestatic 40, 3) := by decide +kernel
theorem dX0_wholeNear_150 : decode cX0_wholeNear 150 = .ok (.lreturn, 1) := by decide +kernel
theorem dX0_raise_0 : decode cX0_raise 0 = .ok (.iload_n 2, 1) := by decide +kernel
theorem dX0_raise_1 : decode cX0_raise 1 = .ok (.ifCond .ne 7, 3) := by decide +kernel
theorem dX0_raise_4 : decode cX0_raise 4 = .ok (.ldc2_w 71, 3) := by decide +kernel
theorem dX0_raise_7 : decode cX0_raise 7 = .ok (.lreturn, 1) := by decide +kernel
theorem dX0_raise_8 : decode cX0_raise 8 = .ok (.lload_n 0, 1) := by decide +kernel
theorem dX0_raise_9 : decode cX0_raise 9 = .ok (.lstore_n 3, 1) := by decide +kernel
theorem dX0_raise_10 : decode cX0_raise 10 = .ok (.bipush 31, 2) := by decide +kernel
theorem dX0_raise_12 : decode cX0_raise 12 = .ok (.iload_n 2, 1) := by decide +kernel
theorem dX0_raise_13 : decode cX0_raise 13 = .ok (.invokestatic 177, 3) := by decide +kernel
theorem dX0_raise_16 : decode cX0_raise 16 = .ok (.isub, 1) := by decide +kernel
theorem dX0_raise_17 : decode cX0_raise 17 = .ok (.istore 5, 2) := by decide +kernel
theorem dX0_raise_19 : decode cX0_raise 19 = .ok (.iload 5, 2) := by decide +kernel
theorem dX0_raise_21 : decode cX0_raise 21 = .ok (.iconst 1, 1) := by decide +kernel
theorem dX0_raise_22 : decode cX0_raise 22 = .ok (.isub, 1) := by decide +kernel
theorem dX0_raise_23 : decode cX0_raise 23 = .ok (.istore 6, 2) := by decide +kernel
theorem dX0_raise_25 : decode cX0_raise 25 = .ok (.iload 6, 2) := by decide +kernel
theorem dX0_raise_27 : decode cX0_raise 27 = .ok (.ifCond .lt 45, 3) := by decide +kernel
theorem dX0_raise_30 : decode cX0_raise 30 = .ok (.lload_n 3, 1) := by decide +kernel
theorem dX0_raise_31 : decode cX0_raise 31 = .ok (.invokestatic 67, 3) := by decide +kernel
theorem dX0_raise_34 : decode cX0_raise 34 = .ok (.ifCond .ne 38, 3) := by decide +kernel
theorem dX0_raise_37 : decode cX0_raise 37 = .ok (.lload_n 3, 1) := by decide +kernel
theorem dX0_raise_38 : decode cX0_raise 38 = .ok (.lload_n 3, 1) := by decide +kernel
theorem dX0_raise_39 : decode cX0_raise 39 = .ok (.invokestatic 112, 3) := by decide +kernel
theorem dX0_raise_42 : decode cX0_raise 42 = .ok (.lstore_n 3, 1) := by decide +kernel
theorem dX0_raise_43 : decode cX0_raise 43 = .ok (.iload_n 2, 1) := by decide +kernel
theorem dX0_raise_44 : decode cX0_raise 44 = .ok (.iload 6, 2) := by decide +kernel
theorem dX0_raise_46 : decode cX0_raise 46 = .ok (.iushr, 1) := by decide +kernel
theorem dX0_raise_47 : decode cX0_raise 47 = .ok (.iconst 1, 1) := by decide +kernel
theorem dX0_raise_48 : decode cX0_raise 48 = .ok (.iand, 1) := by decide +kernel
theorem dX0_raise_49 : decode cX0_raise 49 = .ok (.iconst 1, 1) := by decide +kernel
theorem dX0_raise_50 : decode cX0_raise 50 = .ok (.if_icmp .ne 16, 3) := by decide +kernel
theorem dX0_raise_53 : decode cX0_raise 53 = .ok (.lload_n 3, 1) := by decide +kernel
theorem dX0_raise_54 : decode cX0_raise 54 = .ok (.invokestatic 67, 3) := by decide +kernel
theorem dX0_raise_57 : decode cX0_raise 57 = .ok (.ifCond .ne 9, 3) := by decide +kernel
theorem dX0_raise_60 : decode cX0_raise 60 = .ok (.lload_n 3, 1) := by decide +kernel
theorem dX0_raise_61 : decode cX0_raise 61 = .ok (.lload_n 0, 1) := by decide +kernel
theorem dX0_raise_62 : decode cX0_raise 62 = .ok (.invokestatic 112, 3) := by decide +kernel
theorem dX0_raise_65 : decode cX0_raise 65 = .ok (.lstore_n 3, 1) := by decide +kernel
theorem dX0_raise_66 : decode cX0_raise 66 = .ok (.iinc 6 (-1), 3) := by decide +kernel
theorem dX0_raise_69 : decode cX0_raise 69 = .ok (.goto (-44), 3) := by decide +kernel
theorem dX0_raise_72 : decode cX0_raise 72 = .ok (.lload_n 3, 1) := by decide +kernel
theorem dX0_raise_73 : decode cX0_raise 73 = .ok (.lreturn, 1) := by decide +kernel
theorem dX0_powerOfTwo_0 : decode cX0_powerOfTwo 0 = .ok (.dconst 1, 1) := by decide +kernel
theorem dX0_powerOfTwo_1 : decode cX0_powerOfTwo 1 = .ok (.dstore_n 1, 1) := by decide +kernel
theorem dX0_powerOfTwo_2 : decode cX0_powerOfTwo 2 = .ok (.iload_n 0, 1) := by decide +kernel
theorem dX0_powerOfTwo_3 : decode cX0_powerOfTwo 3 = .ok (.ifCond .ge 9, 3) := by decide +kernel
theorem dX0_powerOfTwo_6 : decode cX0_powerOfTwo 6 = .ok (.ldc2_w 181, 3) := by decide +kernel
theorem dX0_powerOfTwo_9 : decode cX0_powerOfTwo 9 = .ok (.goto 6, 3) := by decide +kernel
theorem dX0_powerOfTwo_12 : decode cX0_powerOfTwo 12 = .ok (.ldc2_w 183, 3) := by decide +kernel
theorem dX0_powerOfTwo_15 : decode cX0_powerOfTwo 15 = .ok (.dstore_n 3, 1) := by decide +kernel
theorem dX0_powerOfTwo_16 : decode cX0_powerOfTwo 16 = .ok (.iload_n 0, 1) := by decide +kernel
theorem dX0_powerOfTwo_17 : decode cX0_powerOfTwo 17 = .ok (.invokestatic 61, 3) := by decide +kernel
theorem dX0_powerOfTwo_20 : decode cX0_powerOfTwo 20 = .ok (.istore 5, 2) := by decide +kernel
theorem dX0_powerOfTwo_22 : decode cX0_powerOfTwo 22 = .ok (.iload 5, 2) := by decide +kernel
theorem dX0_powerOfTwo_24 : decode cX0_powerOfTwo 24 = .ok (.ifCond .le 34, 3) := by decide +kernel
theorem dX0_powerOfTwo_27 : decode cX0_powerOfTwo 27 = .ok (.iload 5, 2) := by decide +kernel
theorem dX0_powerOfTwo_29 : decode cX0_powerOfTwo 29 = .ok (.iconst 1, 1) := by decide +kernel
theorem dX0_powerOfTwo_30 : decode cX0_powerOfTwo 30 = .ok (.iand, 1) := by decide +kernel
theorem dX0_powerOfTwo_31 : decode cX0_powerOfTwo 31 = .ok (.iconst 1, 1) := by decide +kernel
theorem dX0_powerOfTwo_32 : decode cX0_powerOfTwo 32 = .ok (.if_icmp .ne 7, 3) := by decide +kernel
theorem dX0_powerOfTwo_35 : decode cX0_powerOfTwo 35 = .ok (.dload_n 1, 1) := by decide +kernel
theorem dX0_powerOfTwo_36 : decode cX0_powerOfTwo 36 = .ok (.dload_n 3, 1) := by decide +kernel
theorem dX0_powerOfTwo_37 : decode cX0_powerOfTwo 37 = .ok (.dmul, 1) := by decide +kernel
theorem dX0_powerOfTwo_38 : decode cX0_powerOfTwo 38 = .ok (.dstore_n 1, 1) := by decide +kernel
theorem dX0_powerOfTwo_39 : decode cX0_powerOfTwo 39 = .ok (.iload 5, 2) := by decide +kernel
theorem dX0_powerOfTwo_41 : decode cX0_powerOfTwo 41 = .ok (.iconst 1, 1) := by decide +kernel
theorem dX0_powerOfTwo_42 : decode cX0_powerOfTwo 42 = .ok (.if_icmp .le 7, 3) := by decide +kernel
theorem dX0_powerOfTwo_45 : decode cX0_powerOfTwo 45 = .ok (.dload_n 3, 1) := by decide +kernel
theorem dX0_powerOfTwo_46 : decode cX0_powerOfTwo 46 = .ok (.dload_n 3, 1) := by decide +kernel
theorem dX0_powerOfTwo_47 : decode cX0_powerOfTwo 47 = .ok (.dmul, 1) := by decide +kernel
theorem dX0_powerOfTwo_48 : decode cX0_powerOfTwo 48 = .ok (.dstore_n 3, 1) := by decide +kernel
theorem dX0_powerOfTwo_49 : decode cX0_powerOfTwo 49 = .ok (.iload 5, 2) := by decide +kernel
theorem dX0_powerOfTwo_51 : decode cX0_powerOfTwo 51 = .ok (.iconst 1, 1) := by decide +kernel
theorem dX0_powerOfTwo_52 : decode cX0_powerOfTwo 52 = .ok (.iushr, 1) := by decide +kernel
theorem dX0_powerOfTwo_53 : decode cX0_powerOfTwo 53 = .ok (.istore 5, 2) := by decide +kernel
theorem dX0_powerOfTwo_55 : decode cX0_powerOfTwo 55 = .ok (.goto (-33), 3) := by decide +kernel
theorem dX0_powerOfTwo_58 : decode cX0_powerOfTwo 58 = .ok (.dload_n 1, 1) := by decide +kernel
theorem dX0_powerOfTwo_59 : decode cX0_powerOfTwo 59 = .ok (.dreturn, 1) := by decide +kernel
theorem dX1_init_0 : decode cX1_init 0 = .ok (.aload_n 0, 1) := by decide +kernel
theorem dX1_init_1 : decode cX1_init 1 = .ok (.invokespecial 1, 3) := by decide +kernel
theorem dX1_init_4 : decode cX1_init 4 = .ok (.aload_n 0, 1) := by decide +kernel
theorem dX1_init_5 : decode cX1_init 5 = .ok (.sipush 140, 3) := by decide +kernel
theorem dX1_init_8 : decode cX1_init 8 = .ok (.newarray .int, 2) := by decide +kernel
theorem dX1_init_10 : decode cX1_init 10 = .ok (.putfield 7, 3) := by decide +kernel
theorem dX1_init_13 : decode cX1_init 13 = .ok (.return_, 1) := by decide +kernel
theorem dX1_set_0 : decode cX1_set 0 = .ok (.iconst 0, 1) := by decide +kernel
theorem dX1_set_1 : decode cX1_set 1 = .ok (.istore_n 3, 1) := by decide +kernel
theorem dX1_set_2 : decode cX1_set 2 = .ok (.iload_n 3, 1) := by decide +kernel
theorem dX1_set_3 : decode cX1_set 3 = .ok (.sipush 140, 3) := by decide +kernel
theorem dX1_set_6 : decode cX1_set 6 = .ok (.if_icmp .ge 35, 3) := by decide +kernel
theorem dX1_set_9 : decode cX1_set 9 = .ok (.aload_n 0, 1) := by decide +kernel
theorem dX1_set_10 : decode cX1_set 10 = .ok (.getfield 7, 3) := by decide +kernel
theorem dX1_set_13 : decode cX1_set 13 = .ok (.iload_n 3, 1) := by decide +kernel
theorem dX1_set_14 : decode cX1_set 14 = .ok (.iload_n 3, 1) := by decide +kernel
theorem dX1_set_15 : decode cX1_set 15 = .ok (.iconst 3, 1) := by decide +kernel
theorem dX1_set_16 : decode cX1_set 16 = .ok (.if_icmp .ge 17, 3) := by decide +kernel
theorem dX1_set_19 : decode cX1_set 19 = .ok (.lload_n 1, 1) := by decide +kernel
theorem dX1_set_20 : decode cX1_set 20 = .ok (.bipush 24, 2) := by decide +kernel
theorem dX1_set_22 : decode cX1_set 22 = .ok (.iload_n 3, 1) := by decide +kernel
theorem dX1_set_23 : decode cX1_set 23 = .ok (.imul, 1) := by decide +kernel
theorem dX1_set_24 : decode cX1_set 24 = .ok (.lshr, 1) := by decide +kernel
theorem dX1_set_25 : decode cX1_set 25 = .ok (.ldc2_w 13, 3) := by decide +kernel
theorem dX1_set_28 : decode cX1_set 28 = .ok (.land, 1) := by decide +kernel
theorem dX1_set_29 : decode cX1_set 29 = .ok (.l2i, 1) := by decide +kernel
theorem dX1_set_30 : decode cX1_set 30 = .ok (.goto 4, 3) := by decide +kernel
theorem dX1_set_33 : decode cX1_set 33 = .ok (.iconst 0, 1) := by decide +kernel
theorem dX1_set_34 : decode cX1_set 34 = .ok (.iastore, 1) := by decide +kernel
theorem dX1_set_35 : decode cX1_set 35 = .ok (.iinc 3 1, 3) := by decide +kernel
theorem dX1_set_38 : decode cX1_set 38 = .ok (.goto (-36), 3) := by decide +kernel
theorem dX1_set_41 : decode cX1_set 41 = .ok (.return_, 1) := by decide +kernel
theorem dX1_bit_0 : decode cX1_bit 0 = .ok (.iload_n 1, 1) := by decide +kernel
theorem dX1_bit_1 : decode cX1_bit 1 = .ok (.ifCond .lt 34, 3) := by decide +kernel
theorem dX1_bit_4 : decode cX1_bit 4 = .ok (.iload_n 1, 1) := by decide +kernel
theorem dX1_bit_5 : decode cX1_bit 5 = .ok (.sipush 3360, 3) := by decide +kernel
theorem dX1_bit_8 : decode cX1_bit 8 = .ok (.if_icmp .ge 27, 3) := by decide +kernel
theorem dX1_bit_11 : decode cX1_bit 11 = .ok (.aload_n 0, 1) := by decide +kernel
theorem dX1_bit_12 : decode cX1_bit 12 = .ok (.getfield 7, 3) := by decide +kernel
theorem dX1_bit_15 : decode cX1_bit 15 = .ok (.iload_n 1, 1) := by decide +kernel
theorem dX1_bit_16 : decode cX1_bit 16 = .ok (.bipush 24, 2) := by decide +kernel
theorem dX1_bit_18 : decode cX1_bit 18 = .ok (.idiv, 1) := by decide +kernel
theorem dX1_bit_19 : decode cX1_bit 19 = .ok (.iaload, 1) := by decide +kernel
theorem dX1_bit_20 : decode cX1_bit 20 = .ok (.iload_n 1, 1) := by decide +kernel
theorem dX1_bit_21 : decode cX1_bit 21 = .ok (.bipush 24, 2) := by decide +kernel
theorem dX1_bit_23 : decode cX1_bit 23 = .ok (.irem, 1) := by decide +kernel
theorem dX1_bit_24 : decode cX1_bit 24 = .ok (.ishr, 1) := by decide +kernel
theorem dX1_bit_25 : decode cX1_bit 25 = .ok (.iconst 1, 1) := by decide +kernel
theorem dX1_bit_26 : decode cX1_bit 26 = .ok (.iand, 1) := by decide +kernel
theorem dX1_bit_27 : decode cX1_bit 27 = .ok (.iconst 1, 1) := by decide +kernel
theorem dX1_bit_28 : decode cX1_bit 28 = .ok (.if_icmp .ne 7, 3) := by decide +kernel
theorem dX1_bit_31 : decode cX1_bit 31 = .ok (.iconst 1, 1) := by decide +kernel
theorem dX1_bit_32 : decode cX1_bit 32 = .ok (.goto 4, 3) := by decide +kernel
theorem dX1_bit_35 : decode cX1_bit 35 = .ok (.iconst 0, 1) := by decide +kernel
theorem dX1_bit_36 : decode cX1_bit 36 = .ok (.ireturn, 1) := by decide +kernel
theorem dX1_length_0 : decode cX1_length 0 = .ok (.sipush 3360, 3) := by decide +kernel
theorem dX1_length_3 : decode cX1_length 3 = .ok (.istore_n 1, 1) := by decide +kernel
theorem dX1_length_4 : decode cX1_length 4 = .ok (.iload_n 1, 1) := by decide +kernel
theorem dX1_length_5 : decode cX1_length 5 = .ok (.ifCond .le 19, 3) := by decide +kernel
theorem dX1_length_8 : decode cX1_length 8 = .ok (.aload_n 0, 1) := by decide +kernel
theorem dX1_length_9 : decode cX1_length 9 = .ok (.iload_n 1, 1) := by decide +kernel
theorem dX1_length_10 : decode cX1_length 10 = .ok (.iconst 1, 1) := by decide +kernel
theorem dX1_length_11 : decode cX1_length 11 = .ok (.isub, 1) := by decide +kernel
theorem dX1_length_12 : decode cX1_length 12 = .ok (.invokevirtual 15, 3) := by decide +kernel
theorem dX1_length_15 : decode cX1_length 15 = .ok (.ifCond .ne 9, 3) := by decide +kernel
theorem dX1_length_18 : decode cX1_length 18 = .ok (.iinc 1 (-1), 3) := by decide +kernel
theorem dX1_length_21 : decode cX1_length 21 = .ok (.goto (-17), 3) := by decide +kernel
theorem dX1_length_24 : decode cX1_length 24 = .ok (.iload_n 1, 1) := by decide +kernel
theorem dX1_length_25 : decode cX1_length 25 = .ok (.ireturn, 1) := by decide +kernel
theorem dX1_twice_0 : decode cX1_twice 0 = .ok (.iload_n 1, 1) := by decide +kernel
theorem dX1_twice_1 : decode cX1_twice 1 = .ok (.ifCond .eq 7, 3) := by decide +kernel
theorem dX1_twice_4 : decode cX1_twice 4 = .ok (.iconst 1, 1) := by decide +kernel
theorem dX1_twice_5 : decode cX1_twice 5 = .ok (.goto 4, 3) := by decide +kernel
theorem dX1_twice_8 : decode cX1_twice 8 = .ok (.iconst 0, 1) := by decide +kernel
theorem dX1_twice_9 : decode cX1_twice 9 = .ok (.istore_n 2, 1) := by decide +kernel
theorem dX1_twice_10 : decode cX1_twice 10 = .ok (.iconst 0, 1) := by decide +kernel
theorem dX1_twice_11 : decode cX1_twice 11 = .ok (.istore_n 3, 1) := by decide +kernel
theorem dX1_twice_12 : decode cX1_twice 12 = .ok (.iload_n 3, 1) := by decide +kernel
theorem dX1_twice_13 : decode cX1_twice 13 = .ok (.sipush 140, 3) := by decide +kernel
theorem dX1_twice_16 : decode cX1_twice 16 = .ok (.if_icmp .ge 38, 3) := by decide +kernel
theorem dX1_twice_19 : decode cX1_twice 19 = .ok (.iconst 2, 1) := by decide +kernel
theorem dX1_twice_20 : decode cX1_twice 20 = .ok (.aload_n 0, 1) := by decide +kernel
theorem dX1_twice_21 : decode cX1_twice 21 = .ok (.getfield 7, 3) := by decide +kernel
theorem dX1_twice_24 : decode cX1_twice 24 = .ok (.iload_n 3, 1) := by decide +kernel
theorem dX1_twice_25 : decode cX1_twice 25 = .ok (.iaload, 1) := by decide +kernel
theorem dX1_twice_26 : decode cX1_twice 26 = .ok (.imul, 1) := by decide +kernel
theorem dX1_twice_27 : decode cX1_twice 27 = .ok (.iload_n 2, 1) := by decide +kernel
theorem dX1_twice_28 : decode cX1_twice 28 = .ok (.iadd, 1) := by decide +kernel
theorem dX1_twice_29 : decode cX1_twice 29 = .ok (.istore 4, 2) := by decide +kernel
theorem dX1_twice_31 : decode cX1_twice 31 = .ok (.aload_n 0, 1) := by decide +kernel
theorem dX1_twice_32 : decode cX1_twice 32 = .ok (.getfield 7, 3) := by decide +kernel
theorem dX1_twice_35 : decode cX1_twice 35 = .ok (.iload_n 3, 1) := by decide +kernel
theorem dX1_twice_36 : decode cX1_twice 36 = .ok (.iload 4, 2) := by decide +kernel
theorem dX1_twice_38 : decode cX1_twice 38 = .ok (.ldc 19, 2) := by decide +kernel
theorem dX1_twice_40 : decode cX1_twice 40 = .ok (.iand, 1) := by decide +kernel
theorem dX1_twice_41 : decode cX1_twice 41 = .ok (.iastore, 1) := by decide +kernel
theorem dX1_twice_42 : decode cX1_twice 42 = .ok (.iload 4, 2) := by decide +kernel
theorem dX1_twice_44 : decode cX1_twice 44 = .ok (.bipush 24, 2) := by decide +kernel
theorem dX1_twice_46 : decode cX1_twice 46 = .ok (.ishr, 1) := by decide +kernel
theorem dX1_twice_47 : decode cX1_twice 47 = .ok (.istore_n 2, 1) := by decide +kernel
theorem dX1_twice_48 : decode cX1_twice 48 = .ok (.iinc 3 1, 3) := by decide +kernel
theorem dX1_twice_51 : decode cX1_twice 51 = .ok (.goto (-39), 3) := by decide +kernel
theorem dX1_twice_54 : decode cX1_twice 54 = .ok (.return_, 1) := by decide +kernel
theorem dX1_up_0 : decode cX1_up 0 = .ok (.sipush 139, 3) := by decide +kernel
theorem dX1_up_3 : decode cX1_up 3 = .ok (.istore_n 2, 1) := by decide +kernel
theorem dX1_up_4 : decode cX1_up 4 = .ok (.iload_n 2, 1) := by decide +kernel
theorem dX1_up_5 : decode cX1_up 5 = .ok (.ifCond .lt 77, 3) := by decide +kernel
theorem dX1_up_8 : decode cX1_up 8 = .ok (.iload_n 2, 1) := by decide +kernel
theorem dX1_up_9 : decode cX1_up 9 = .ok (.iload_n 1, 1) := by decide +kernel
theorem dX1_up_10 : decode cX1_up 10 = .ok (.bipush 24, 2) := by decide +kernel
theorem dX1_up_12 : decode cX1_up 12 = .ok (.idiv, 1) := by decide +kernel
theorem dX1_up_13 : decode cX1_up 13 = .ok (.isub, 1) := by decide +kernel
theorem dX1_up_14 : decode cX1_up 14 = .ok (.istore_n 3, 1) := by decide +kernel
theorem dX1_up_15 : decode cX1_up 15 = .ok (.iload_n 3, 1) := by decide +kernel
theorem dX1_up_16 : decode cX1_up 16 = .ok (.ifCond .lt 17, 3) := by decide +kernel
theorem dX1_up_19 : decode cX1_up 19 = .ok (.aload_n 0, 1) := by decide +kernel
theorem dX1_up_20 : decode cX1_up 20 = .ok (.getfield 7, 3) := by decide +kernel
theorem dX1_up_23 : decode cX1_up 23 = .ok (.iload_n 3, 1) := by decide +kernel
theorem dX1_up_24 : decode cX1_up 24 = .ok (.iaload, 1) := by decide +kernel
theorem dX1_up_25 : decode cX1_up 25 = .ok (.iload_n 1, 1) := by decide +kernel
theorem dX1_up_26 : decode cX1_up 26 = .ok (.bipush 24, 2) := by decide +kernel
theorem dX1_up_28 : decode cX1_up 28 = .ok (.irem, 1) := by decide +kernel
theorem dX1_up_29 : decode cX1_up 29 = .ok (.ishl, 1) := by decide +kernel
theorem dX1_up_30 : decode cX1_up 30 = .ok (.goto 4, 3) := by decide +kernel
theorem dX1_up_33 : decode cX1_up 33 = .ok (.iconst 0, 1) := by decide +kernel
theorem dX1_up_34 : decode cX1_up 34 = .ok (.istore 4, 2) := by decide +kernel
theorem dX1_up_36 : decode cX1_up 36 = .ok (.iload_n 3, 1) := by decide +kernel
theorem dX1_up_37 : decode cX1_up 37 = .ok (.ifCond .le 22, 3) := by decide +kernel
theorem dX1_up_40 : decode cX1_up 40 = .ok (.aload_n 0, 1) := by decide +kernel
theorem dX1_up_41 : decode cX1_up 41 = .ok (.getfield 7, 3) := by decide +kernel
theorem dX1_up_44 : decode cX1_up 44 = .ok (.iload_n 3, 1) := by decide +kernel
theorem dX1_up_45 : decode cX1_up 45 = .ok (.iconst 1, 1) := by decide +kernel
theorem dX1_up_46 : decode cX1_up 46 = .ok (.isub, 1) := by decide +kernel
theorem dX1_up_47 : decode cX1_up 47 = .ok (.iaload, 1) := by decide +kernel
theorem dX1_up_48 : decode cX1_up 48 = .ok (.bipush 24, 2) := by decide +kernel
theorem dX1_up_50 : decode cX1_up 50 = .ok (.iload_n 1, 1) := by decide +kernel
theorem dX1_up_51 : decode cX1_up 51 = .ok (.bipush 24, 2) := by decide +kernel
theorem dX1_up_53 : decode cX1_up 53 = .ok (.irem, 1) := by decide +kernel
theorem dX1_up_54 : decode cX1_up 54 = .ok (.isub, 1) := by decide +kernel
theorem dX1_up_55 : decode cX1_up 55 = .ok (.ishr, 1) := by decide +kernel
theorem dX1_up_56 : decode cX1_up 56 = .ok (.goto 4, 3) := by decide +kernel
theorem dX1_up_59 : decode cX1_up 59 = .ok (.iconst 0, 1) := by decide +kernel
theorem dX1_up_60 : decode cX1_up 60 = .ok (.istore 5, 2) := by decide +kernel
theorem dX1_up_62 : decode cX1_up 62 = .ok (.aload_n 0, 1) := by decide +kernel
theorem dX1_up_63 : decode cX1_up 63 = .ok (.getfield 7, 3) := by decide +kernel
theorem dX1_up_66 : decode cX1_up 66 = .ok (.iload_n 2, 1) := by decide +kernel
theorem dX1_up_67 : decode cX1_up 67 = .ok (.iload 4, 2) := by decide +kernel
theorem dX1_up_69 : decode cX1_up 69 = .ok (.iload 5, 2) := by decide +kernel
theorem dX1_up_71 : decode cX1_up 71 = .ok (.ior, 1) := by decide +kernel
theorem dX1_up_72 : decode cX1_up 72 = .ok (.ldc 19, 2) := by decide +kernel
theorem dX1_up_74 : decode cX1_up 74 = .ok (.iand, 1) := by decide +kernel
theorem dX1_up_75 : decode cX1_up 75 = .ok (.iastore, 1) := by decide +kernel
theorem dX1_up_76 : decode cX1_up 76 = .ok (.iinc 2 (-1), 3) := by decide +kernel
theorem dX1_up_79 : decode cX1_up 79 = .ok (.goto (-75), 3) := by decide +kernel
theorem dX1_up_82 : decode cX1_up 82 = .ok (.return_, 1) := by decide +kernel
theorem dX1_add_0 : decode cX1_add 0 = .ok (.iconst 0, 1) := by decide +kernel
theorem dX1_add_1 : decode cX1_add 1 = .ok (.istore_n 2, 1) := by decide +kernel
theorem dX1_add_2 : decode cX1_add 2 = .ok (.iconst 0, 1) := by decide +kernel
theorem dX1_add_3 : decode cX1_add 3 = .ok (.istore_n 3, 1) := by decide +kernel
theorem dX1_add_4 : decode cX1_add 4 = .ok (.iload_n 3, 1) := by decide +kernel
theorem dX1_add_5 : decode cX1_add 5 = .ok (.sipush 140, 3) := by decide +kernel
theorem dX1_add_8 : decode cX1_add 8 = .ok (.if_icmp .ge 43, 3) := by decide +kernel
theorem dX1_add_11 : decode cX1_add 11 = .ok (.aload_n 0, 1) := by decide +kernel
theorem dX1_add_12 : decode cX1_add 12 = .ok (.getfield 7, 3) := by decide +kernel
theorem dX1_add_15 : decode cX1_add 15 = .ok (.iload_n 3, 1) := by decide +kernel
theorem dX1_add_16 : decode cX1_add 16 = .ok (.iaload, 1) := by decide +kernel
theorem dX1_add_17 : decode cX1_add 17 = .ok (.aload_n 1, 1) := by decide +kernel
theorem dX1_add_18 : decode cX1_add 18 = .ok (.getfield 7, 3) := by decide +kernel
theorem dX1_add_21 : decode cX1_add 21 = .ok (.iload_n 3, 1) := by decide +kernel
theorem dX1_add_22 : decode cX1_add 22 = .ok (.iaload, 1) := by decide +kernel
theorem dX1_add_23 : decode cX1_add 23 = .ok (.iadd, 1) := by decide +kernel
theorem dX1_add_24 : decode cX1_add 24 = .ok (.iload_n 2, 1) := by decide +kernel
theorem dX1_add_25 : decode cX1_add 25 = .ok (.iadd, 1) := by decide +kernel
theorem dX1_add_26 : decode cX1_add 26 = .ok (.istore 4, 2) := by decide +kernel
theorem dX1_add_28 : decode cX1_add 28 = .ok (.aload_n 0, 1) := by decide +kernel
theorem dX1_add_29 : decode cX1_add 29 = .ok (.getfield 7, 3) := by decide +kernel
theorem dX1_add_32 : decode cX1_add 32 = .ok (.iload_n 3, 1) := by decide +kernel
theorem dX1_add_33 : decode cX1_add 33 = .ok (.iload 4, 2) := by decide +kernel
theorem dX1_add_35 : decode cX1_add 35 = .ok (.ldc 19, 2) := by decide +kernel
theorem dX1_add_37 : decode cX1_add 37 = .ok (.iand, 1) := by decide +kernel
theorem dX1_add_38 : decode cX1_add 38 = .ok (.iastore, 1) := by decide +kernel
theorem dX1_add_39 : decode cX1_add 39 = .ok (.iload 4, 2) := by decide +kernel
theorem dX1_add_41 : decode cX1_add 41 = .ok (.bipush 24, 2) := by decide +kernel
theorem dX1_add_43 : decode cX1_add 43 = .ok (.ishr, 1) := by decide +kernel
theorem dX1_add_44 : decode cX1_add 44 = .ok (.istore_n 2, 1) := by decide +kernel
theorem dX1_add_45 : decode cX1_add 45 = .ok (.iinc 3 1, 3) := by decide +kernel
theorem dX1_add_48 : decode cX1_add 48 = .ok (.goto (-44), 3) := by decide +kernel
theorem dX1_add_51 : decode cX1_add 51 = .ok (.return_, 1) := by decide +kernel
theorem dX1_less_0 : decode cX1_less 0 = .ok (.iconst 0, 1) := by decide +kernel
theorem dX1_less_1 : decode cX1_less 1 = .ok (.istore_n 2, 1) := by decide +kernel
theorem dX1_less_2 : decode cX1_less 2 = .ok (.iconst 0, 1) := by decide +kernel
theorem dX1_less_3 : decode cX1_less 3 = .ok (.istore_n 3, 1) := by decide +kernel
theorem dX1_less_4 : decode cX1_less 4 = .ok (.iload_n 3, 1) := by decide +kernel
theorem dX1_less_5 : decode cX1_less 5 = .ok (.sipush 140, 3) := by decide +kernel
theorem dX1_less_8 : decode cX1_less 8 = .ok (.if_icmp .ge 48, 3) := by decide +kernel
theorem dX1_less_11 : decode cX1_less 11 = .ok (.aload_n 0, 1) := by decide +kernel
theorem dX1_less_12 : decode cX1_less 12 = .ok (.getfield 7, 3) := by decide +kernel
theorem dX1_less_15 : decode cX1_less 15 = .ok (.iload_n 3, 1) := by decide +kernel
theorem dX1_less_16 : decode cX1_less 16 = .ok (.iaload, 1) := by decide +kernel
theorem dX1_less_17 : decode cX1_less 17 = .ok (.aload_n 1, 1) := by decide +kernel
theorem dX1_less_18 : decode cX1_less 18 = .ok (.getfield 7, 3) := by decide +kernel
theorem dX1_less_21 : decode cX1_less 21 = .ok (.iload_n 3, 1) := by decide +kernel
theorem dX1_less_22 : decode cX1_less 22 = .ok (.iaload, 1) := by decide +kernel
theorem dX1_less_23 : decode cX1_less 23 = .ok (.isub, 1) := by decide +kernel
theorem dX1_less_24 : decode cX1_less 24 = .ok (.iload_n 2, 1) := by decide +kernel
theorem dX1_less_25 : decode cX1_less 25 = .ok (.isub, 1) := by decide +kernel
theorem dX1_less_26 : decode cX1_less 26 = .ok (.istore 4, 2) := by decide +kernel
theorem dX1_less_28 : decode cX1_less 28 = .ok (.iload 4, 2) := by decide +kernel
theorem dX1_less_30 : decode cX1_less 30 = .ok (.ifCond .ge 7, 3) := by decide +kernel
theorem dX1_less_33 : decode cX1_less 33 = .ok (.iconst 1, 1) := by decide +kernel
theorem dX1_less_34 : decode cX1_less 34 = .ok (.goto 4, 3) := by decide +kernel
theorem dX1_less_37 : decode cX1_less 37 = .ok (.iconst 0, 1) := by decide +kernel
theorem dX1_less_38 : decode cX1_less 38 = .ok (.istore_n 2, 1) := by decide +kernel
theorem dX1_less_39 : decode cX1_less 39 = .ok (.aload_n 0, 1) := by decide +kernel
theorem dX1_less_40 : decode cX1_less 40 = .ok (.getfield 7, 3) := by decide +kernel
theorem dX1_less_43 : decode cX1_less 43 = .ok (.iload_n 3, 1) := by decide +kernel
theorem dX1_less_44 : decode cX1_less 44 = .ok (.iload 4, 2) := by decide +kernel
theorem dX1_less_46 : decode cX1_less 46 = .ok (.ldc 19, 2) := by decide +kernel
theorem dX1_less_48 : decode cX1_less 48 = .ok (.iand, 1) := by decide +kernel
theorem dX1_less_49 : decode cX1_less 49 = .ok (.iastore, 1) := by decide +kernel
theorem dX1_less_50 : decode cX1_less 50 = .ok (.iinc 3 1, 3) := by decide +kernel
theorem dX1_less_53 : decode cX1_less 53 = .ok (.goto (-49), 3) := by decide +kernel
theorem dX1_less_56 : decode cX1_less 56 = .ok (.return_, 1) := by decide +kernel
theorem dX1_compare_0 : decode cX1_compare 0 = .ok (.sipush 139, 3) := by decide +kernel
theorem dX1_compare_3 : decode cX1_compare 3 = .ok (.istore_n 2, 1) := by decide +kernel
theorem dX1_compare_4 : decode cX1_compare 4 = .ok (.iload_n 2, 1) := by decide +kernel
theorem dX1_compare_5 : decode cX1_compare 5 = .ok (.ifCond .lt 24, 3) := by decide +kernel
theorem dX1_compare_8 : decode cX1_compare 8 = .ok (.aload_n 0, 1) := by decide +kernel
theorem dX1_compare_9 : decode cX1_compare 9 = .ok (.getfield 7, 3) := by decide +kernel
theorem dX1_compare_12 : decode cX1_compare 12 = .ok (.iload_n 2, 1) := by decide +kernel
theorem dX1_compare_13 : decode cX1_compare 13 = .ok (.iaload, 1) := by decide +kernel
theorem dX1_compare_14 : decode cX1_compare 14 = .ok (.aload_n 1, 1) := by decide +kernel
theorem dX1_compare_15 : decode cX1_compare 15 = .ok (.getfield 7, 3) := by decide +kernel
theorem dX1_compare_18 : decode cX1_compare 18 = .ok (.iload_n 2, 1) := by decide +kernel
theorem dX1_compare_19 : decode cX1_compare 19 = .ok (.iaload, 1) := by decide +kernel
theorem dX1_compare_20 : decode cX1_compare 20 = .ok (.if_icmp .ne 9, 3) := by decide +kernel
theorem dX1_compare_23 : decode cX1_compare 23 = .ok (.iinc 2 (-1), 3) := by decide +kernel
theorem dX1_compare_26 : decode cX1_compare 26 = .ok (.goto (-22), 3) := by decide +kernel
theorem dX1_compare_29 : decode cX1_compare 29 = .ok (.iload_n 2, 1) := by decide +kernel
theorem dX1_compare_30 : decode cX1_compare 30 = .ok (.ifCond .ge 7, 3) := by decide +kernel
theorem dX1_compare_33 : decode cX1_compare 33 = .ok (.iconst 0, 1) := by decide +kernel
theorem dX1_compare_34 : decode cX1_compare 34 = .ok (.goto 23, 3) := by decide +kernel
theorem dX1_compare_37 : decode cX1_compare 37 = .ok (.aload_n 0, 1) := by decide +kernel
theorem dX1_compare_38 : decode cX1_compare 38 = .ok (.getfield 7, 3) := by decide +kernel
theorem dX1_compare_41 : decode cX1_compare 41 = .ok (.iload_n 2, 1) := by decide +kernel
theorem dX1_compare_42 : decode cX1_compare 42 = .ok (.iaload, 1) := by decide +kernel
theorem dX1_compare_43 : decode cX1_compare 43 = .ok (.aload_n 1, 1) := by decide +kernel
theorem dX1_compare_44 : decode cX1_compare 44 = .ok (.getfield 7, 3) := by decide +kernel
theorem dX1_compare_47 : decode cX1_compare 47 = .ok (.iload_n 2, 1) := by decide +kernel
theorem dX1_compare_48 : decode cX1_compare 48 = .ok (.iaload, 1) := by decide +kernel
theorem dX1_compare_49 : decode cX1_compare 49 = .ok (.if_icmp .ge 7, 3) := by decide +kernel
theorem dX1_compare_52 : decode cX1_compare 52 = .ok (.iconst (-1), 1) := by decide +kernel
theorem dX1_compare_53 : decode cX1_compare 53 = .ok (.goto 4, 3) := by decide +kernel
theorem dX1_compare_56 : decode cX1_compare 56 = .ok (.iconst 1, 1) := by decide +kernel
theorem dX1_compare_57 : decode cX1_compare 57 = .ok (.ireturn, 1) := by decide +kernel
theorem dX1_product_0 : decode cX1_product 0 = .ok (.aload_n 0, 1) := by decide +kernel
theorem dX1_product_1 : decode cX1_product 1 = .ok (.lconst 0, 1) := by decide +kernel
theorem dX1_product_2 : decode cX1_product 2 = .ok (.invokevirtual 20, 3) := by decide +kernel
theorem dX1_product_5 : decode cX1_product 5 = .ok (.bipush 60, 2) := by decide +kernel
theorem dX1_product_7 : decode cX1_product 7 = .ok (.istore 5, 2) := by decide +kernel
theorem dX1_product_9 : decode cX1_product 9 = .ok (.iload 5, 2) := by decide +kernel
theorem dX1_product_11 : decode cX1_product 11 = .ok (.ifCond .lt 30, 3) := by decide +kernel
theorem dX1_product_14 : decode cX1_product 14 = .ok (.aload_n 0, 1) := by decide +kernel
theorem dX1_product_15 : decode cX1_product 15 = .ok (.iconst 0, 1) := by decide +kernel
theorem dX1_product_16 : decode cX1_product 16 = .ok (.invokevirtual 24, 3) := by decide +kernel
theorem dX1_product_19 : decode cX1_product 19 = .ok (.lload_n 3, 1) := by decide +kernel
theorem dX1_product_20 : decode cX1_product 20 = .ok (.iload 5, 2) := by decide +kernel
theorem dX1_product_22 : decode cX1_product 22 = .ok (.lshr, 1) := by decide +kernel
theorem dX1_product_23 : decode cX1_product 23 = .ok (.lconst 1, 1) := by decide +kernel
theorem dX1_product_24 : decode cX1_product 24 = .ok (.land, 1) := by decide +kernel
theorem dX1_product_25 : decode cX1_product 25 = .ok (.lconst 1, 1) := by decide +kernel
theorem dX1_product_26 : decode cX1_product 26 = .ok (.lcmp, 1) := by decide +kernel
theorem dX1_product_27 : decode cX1_product 27 = .ok (.ifCond .ne 8, 3) := by decide +kernel
theorem dX1_product_30 : decode cX1_product 30 = .ok (.aload_n 0, 1) := by decide +kernel
theorem dX1_product_31 : decode cX1_product 31 = .ok (.lload_n 1, 1) := by decide +kernel
theorem dX1_product_32 : decode cX1_product 32 = .ok (.invokevirtual 28, 3) := by decide +kernel
theorem dX1_product_35 : decode cX1_product 35 = .ok (.iinc 5 (-1), 3) := by decide +kernel
theorem dX1_product_38 : decode cX1_product 38 = .ok (.goto (-29), 3) := by decide +kernel
theorem dX1_product_41 : decode cX1_product 41 = .ok (.return_, 1) := by decide +kernel
theorem dX1_addLong_0 : decode cX1_addLong 0 = .ok (.lload_n 1, 1) := by decide +kernel
theorem dX1_addLong_1 : decode cX1_addLong 1 = .ok (.lstore_n 3, 1) := by decide +kernel
theorem dX1_addLong_2 : decode cX1_addLong 2 = .ok (.iconst 0, 1) := by decide +kernel
theorem dX1_addLong_3 : decode cX1_addLong 3 = .ok (.istore 5, 2) := by decide +kernel
theorem dX1_addLong_5 : decode cX1_addLong 5 = .ok (.iload 5, 2) := by decide +kernel
theorem dX1_addLong_7 : decode cX1_addLong 7 = .ok (.sipush 140, 3) := by decide +kernel
theorem dX1_addLong_10 : decode cX1_addLong 10 = .ok (.if_icmp .ge 38, 3) := by decide +kernel
theorem dX1_addLong_13 : decode cX1_addLong 13 = .ok (.lload_n 3, 1) := by decide +kernel
theorem dX1_addLong_14 : decode cX1_addLong 14 = .ok (.aload_n 0, 1) := by decide +kernel
theorem dX1_addLong_15 : decode cX1_addLong 15 = .ok (.getfield 7, 3) := by decide +kernel
theorem dX1_addLong_18 : decode cX1_addLong 18 = .ok (.iload 5, 2) := by decide +kernel
theorem dX1_addLong_20 : decode cX1_addLong 20 = .ok (.iaload, 1) := by decide +kernel
theorem dX1_addLong_21 : decode cX1_addLong 21 = .ok (.i2l, 1) := by decide +kernel
theorem dX1_addLong_22 : decode cX1_addLong 22 = .ok (.ladd, 1) := by decide +kernel
theorem dX1_addLong_23 : decode cX1_addLong 23 = .ok (.lstore_n 3, 1) := by decide +kernel
theorem dX1_addLong_24 : decode cX1_addLong 24 = .ok (.aload_n 0, 1) := by decide +kernel
theorem dX1_addLong_25 : decode cX1_addLong 25 = .ok (.getfield 7, 3) := by decide +kernel
theorem dX1_addLong_28 : decode cX1_addLong 28 = .ok (.iload 5, 2) := by decide +kernel
theorem dX1_addLong_30 : decode cX1_addLong 30 = .ok (.lload_n 3, 1) := by decide +kernel
theorem dX1_addLong_31 : decode cX1_addLong 31 = .ok (.ldc2_w 13, 3) := by decide +kernel
theorem dX1_addLong_34 : decode cX1_addLong 34 = .ok (.land, 1) := by decide +kernel
theorem dX1_addLong_35 : decode cX1_addLong 35 = .ok (.l2i, 1) := by decide +kernel
theorem dX1_addLong_36 : decode cX1_addLong 36 = .ok (.iastore, 1) := by decide +kernel
theorem dX1_addLong_37 : decode cX1_addLong 37 = .ok (.lload_n 3, 1) := by decide +kernel
theorem dX1_addLong_38 : decode cX1_addLong 38 = .ok (.bipush 24, 2) := by decide +kernel
theorem dX1_addLong_40 : decode cX1_addLong 40 = .ok (.lshr, 1) := by decide +kernel
theorem dX1_addLong_41 : decode cX1_addLong 41 = .ok (.lstore_n 3, 1) := by decide +kernel
theorem dX1_addLong_42 : decode cX1_addLong 42 = .ok (.iinc 5 1, 3) := by decide +kernel
theorem dX1_addLong_45 : decode cX1_addLong 45 = .ok (.goto (-40), 3) := by decide +kernel
theorem dX1_addLong_48 : decode cX1_addLong 48 = .ok (.return_, 1) := by decide +kernel
theorem dX1_places_0 : decode cX1_places 0 = .ok (.lconst 0, 1) := by decide +kernel
theorem dX1_places_1 : decode cX1_places 1 = .ok (.lstore_n 2, 1) := by decide +kernel
theorem dX1_places_2 : decode cX1_places 2 = .ok (.bipush 52, 2) := by decide +kernel
theorem dX1_places_4 : decode cX1_places 4 = .ok (.istore 4, 2) := by decide +kernel
theorem dX1_places_6 : decode cX1_places 6 = .ok (.iload 4, 2) := by decide +kernel
theorem dX1_places_8 : decode cX1_places 8 = .ok (.ifCond .lt 32, 3) := by decide +kernel
theorem dX1_places_11 : decode cX1_places 11 = .ok (.ldc2_w 31, 3) := by decide +kernel
theorem dX1_places_14 : decode cX1_places 14 = .ok (.lload_n 2, 1) := by decide +kernel
theorem dX1_places_15 : decode cX1_places 15 = .ok (.lmul, 1) := by decide +kernel
theorem dX1_places_16 : decode cX1_places 16 = .ok (.aload_n 0, 1) := by decide +kernel
theorem dX1_places_17 : decode cX1_places 17 = .ok (.iload_n 1, 1) := by decide +kernel
theorem dX1_places_18 : decode cX1_places 18 = .ok (.iload 4, 2) := by decide +kernel
theorem dX1_places_20 : decode cX1_places 20 = .ok (.iadd, 1) := by decide +kernel
theorem dX1_places_21 : decode cX1_places 21 = .ok (.invokevirtual 15, 3) := by decide +kernel
theorem dX1_places_24 : decode cX1_places 24 = .ok (.ifCond .eq 7, 3) := by decide +kernel
theorem dX1_places_27 : decode cX1_places 27 = .ok (.lconst 1, 1) := by decide +kernel
theorem dX1_places_28 : decode cX1_places 28 = .ok (.goto 4, 3) := by decide +kernel
theorem dX1_places_31 : decode cX1_places 31 = .ok (.lconst 0, 1) := by decide +kernel
theorem dX1_places_32 : decode cX1_places 32 = .ok (.ladd, 1) := by decide +kernel
theorem dX1_places_33 : decode cX1_places 33 = .ok (.lstore_n 2, 1) := by decide +kernel
theorem dX1_places_34 : decode cX1_places 34 = .ok (.iinc 4 (-1), 3) := by decide +kernel
theorem dX1_places_37 : decode cX1_places 37 = .ok (.goto (-31), 3) := by decide +kernel
theorem dX1_places_40 : decode cX1_places 40 = .ok (.lload_n 2, 1) := by decide +kernel
theorem dX1_places_41 : decode cX1_places 41 = .ok (.lreturn, 1) := by decide +kernel
theorem dX1_hasBelow_0 : decode cX1_hasBelow 0 = .ok (.iconst 0, 1) := by decide +kernel
theorem dX1_hasBelow_1 : decode cX1_hasBelow 1 = .ok (.istore_n 2, 1) := by decide +kernel
theorem dX1_hasBelow_2 : decode cX1_hasBelow 2 = .ok (.iconst 0, 1) := by decide +kernel
theorem dX1_hasBelow_3 : decode cX1_hasBelow 3 = .ok (.istore_n 3, 1) := by decide +kernel
theorem dX1_hasBelow_4 : decode cX1_hasBelow 4 = .ok (.iload_n 3, 1) := by decide +kernel
theorem dX1_hasBelow_5 : decode cX1_hasBelow 5 = .ok (.iload_n 1, 1) := by decide +kernel
theorem dX1_hasBelow_6 : decode cX1_hasBelow 6 = .ok (.if_icmp .ge 19, 3) := by decide +kernel
theorem dX1_hasBelow_9 : decode cX1_hasBelow 9 = .ok (.iload_n 2, 1) := by decide +kernel
theorem dX1_hasBelow_10 : decode cX1_hasBelow 10 = .ok (.ifCond .ne 15, 3) := by decide +kernel
theorem dX1_hasBelow_13 : decode cX1_hasBelow 13 = .ok (.aload_n 0, 1) := by decide +kernel
theorem dX1_hasBelow_14 : decode cX1_hasBelow 14 = .ok (.iload_n 3, 1) := by decide +kernel
theorem dX1_hasBelow_15 : decode cX1_hasBelow 15 = .ok (.invokevirtual 15, 3) := by decide +kernel
theorem dX1_hasBelow_18 : decode cX1_hasBelow 18 = .ok (.istore_n 2, 1) := by decide +kernel
theorem dX1_hasBelow_19 : decode cX1_hasBelow 19 = .ok (.iinc 3 1, 3) := by decide +kernel
theorem dX1_hasBelow_22 : decode cX1_hasBelow 22 = .ok (.goto (-18), 3) := by decide +kernel
theorem dX1_hasBelow_25 : decode cX1_hasBelow 25 = .ok (.iload_n 2, 1) := by decide +kernel
theorem dX1_hasBelow_26 : decode cX1_hasBelow 26 = .ok (.ireturn, 1) := by decide +kernel
theorem dX2_init_0 : decode cX2_init 0 = .ok (.aload_n 0, 1) := by decide +kernel
theorem dX2_init_1 : decode cX2_init 1 = .ok (.invokespecial 1, 3) := by decide +kernel
theorem dX2_init_4 : decode cX2_init 4 = .ok (.aload_n 0, 1) := by decide +kernel
theorem dX2_init_5 : decode cX2_init 5 = .ok (.bipush 16, 2) := by decide +kernel
theorem dX2_init_7 : decode cX2_init 7 = .ok (.newarray .boolean, 2) := by decide +kernel
theorem dX2_init_9 : decode cX2_init 9 = .ok (.putfield 7, 3) := by decide +kernel
theorem dX2_init_12 : decode cX2_init 12 = .ok (.aload_n 0, 1) := by decide +kernel
theorem dX2_init_13 : decode cX2_init 13 = .ok (.bipush 16, 2) := by decide +kernel
theorem dX2_init_15 : decode cX2_init 15 = .ok (.newarray .long, 2) := by decide +kernel
theorem dX2_init_17 : decode cX2_init 17 = .ok (.putfield 13, 3) := by decide +kernel
theorem dX2_init_20 : decode cX2_init 20 = .ok (.aload_n 0, 1) := by decide +kernel
theorem dX2_init_21 : decode cX2_init 21 = .ok (.bipush 16, 2) := by decide +kernel
theorem dX2_init_23 : decode cX2_init 23 = .ok (.newarray .int, 2) := by decide +kernel
theorem dX2_init_25 : decode cX2_init 25 = .ok (.putfield 17, 3) := by decide +kernel
theorem dX2_init_28 : decode cX2_init 28 = .ok (.aload_n 0, 1) := by decide +kernel
theorem dX2_init_29 : decode cX2_init 29 = .ok (.new 21, 3) := by decide +kernel
theorem dX2_init_32 : decode cX2_init 32 = .ok (.dup, 1) := by decide +kernel
theorem dX2_init_33 : decode cX2_init 33 = .ok (.invokespecial 23, 3) := by decide +kernel
theorem dX2_init_36 : decode cX2_init 36 = .ok (.putfield 24, 3) := by decide +kernel
theorem dX2_init_39 : decode cX2_init 39 = .ok (.aload_n 0, 1) := by decide +kernel
theorem dX2_init_40 : decode cX2_init 40 = .ok (.new 21, 3) := by decide +kernel
theorem dX2_init_43 : decode cX2_init 43 = .ok (.dup, 1) := by decide +kernel
theorem dX2_init_44 : decode cX2_init 44 = .ok (.invokespecial 23, 3) := by decide +kernel
theorem dX2_init_47 : decode cX2_init 47 = .ok (.putfield 28, 3) := by decide +kernel
theorem dX2_init_50 : decode cX2_init 50 = .ok (.iconst 0, 1) := by decide +kernel
theorem dX2_init_51 : decode cX2_init 51 = .ok (.istore_n 1, 1) := by decide +kernel
theorem dX2_init_52 : decode cX2_init 52 = .ok (.iload_n 1, 1) := by decide +kernel
theorem dX2_init_53 : decode cX2_init 53 = .ok (.bipush 16, 2) := by decide +kernel
theorem dX2_init_55 : decode cX2_init 55 = .ok (.if_icmp .ge 18, 3) := by decide +kernel
theorem dX2_init_58 : decode cX2_init 58 = .ok (.aload_n 0, 1) := by decide +kernel
theorem dX2_init_59 : decode cX2_init 59 = .ok (.getfield 17, 3) := by decide +kernel
theorem dX2_init_62 : decode cX2_init 62 = .ok (.iload_n 1, 1) := by decide +kernel
theorem dX2_init_63 : decode cX2_init 63 = .ok (.sipush (-1074), 3) := by decide +kernel
theorem dX2_init_66 : decode cX2_init 66 = .ok (.iastore, 1) := by decide +kernel
theorem dX2_init_67 : decode cX2_init 67 = .ok (.iinc 1 1, 3) := by decide +kernel
theorem dX2_init_70 : decode cX2_init 70 = .ok (.goto (-18), 3) := by decide +kernel
theorem dX2_init_73 : decode cX2_init 73 = .ok (.return_, 1) := by decide +kernel
theorem dX2_thrown_0 : decode cX2_thrown 0 = .ok (.aload_n 0, 1) := by decide +kernel
theorem dX2_thrown_1 : decode cX2_thrown 1 = .ok (.getfield 31, 3) := by decide +kernel
theorem dX2_thrown_4 : decode cX2_thrown 4 = .ok (.ireturn, 1) := by decide +kernel
theorem dX2_refuse_0 : decode cX2_refuse 0 = .ok (.aload_n 0, 1) := by decide +kernel
theorem dX2_refuse_1 : decode cX2_refuse 1 = .ok (.iload_n 1, 1) := by decide +kernel
theorem dX2_refuse_2 : decode cX2_refuse 2 = .ok (.putfield 31, 3) := by decide +kernel
theorem dX2_refuse_5 : decode cX2_refuse 5 = .ok (.iconst 0, 1) := by decide +kernel
theorem dX2_refuse_6 : decode cX2_refuse 6 = .ok (.ireturn, 1) := by decide +kernel
theorem dX2_isRegister_0 : decode cX2_isRegister 0 = .ok (.iload_n 0, 1) := by decide +kernel
theorem dX2_isRegister_1 : decode cX2_isRegister 1 = .ok (.ifCond .lt 13, 3) := by decide +kernel
theorem dX2_isRegister_4 : decode cX2_isRegister 4 = .ok (.iload_n 0, 1) := by decide +kernel
theorem dX2_isRegister_5 : decode cX2_isRegister 5 = .ok (.bipush 16, 2) := by decide +kernel
theorem dX2_isRegister_7 : decode cX2_isRegister 7 = .ok (.if_icmp .ge 7, 3) := by decide +kernel
theorem dX2_isRegister_10 : decode cX2_isRegister 10 = .ok (.iconst 1, 1) := by decide +kernel
theorem dX2_isRegister_11 : decode cX2_isRegister 11 = .ok (.goto 4, 3) := by decide +kernel
theorem dX2_isRegister_14 : decode cX2_isRegister 14 = .ok (.iconst 0, 1) := by decide +kernel
theorem dX2_isRegister_15 : decode cX2_isRegister 15 = .ok (.ireturn, 1) := by decide +kernel
theorem dX2_within_0 : decode cX2_within 0 = .ok (.iload_n 0, 1) := by decide +kernel
theorem dX2_within_1 : decode cX2_within 1 = .ok (.iload_n 1, 1) := by decide +kernel
theorem dX2_within_2 : decode cX2_within 2 = .ok (.if_icmp .lt 12, 3) := by decide +kernel
theorem dX2_within_5 : decode cX2_within 5 = .ok (.iload_n 0, 1) := by decide +kernel
theorem dX2_within_6 : decode cX2_within 6 = .ok (.iload_n 2, 1) := by decide +kernel
theorem dX2_within_7 : decode cX2_within 7 = .ok (.if_icmp .gt 7, 3) := by decide +kernel
theorem dX2_within_10 : decode cX2_within 10 = .ok (.iconst 1, 1) := by decide +kernel
theorem dX2_within_11 : decode cX2_within 11 = .ok (.goto 4, 3) := by decide +kernel
theorem dX2_within_14 : decode cX2_within 14 = .ok (.iconst 0, 1) := by decide +kernel
theorem dX2_within_15 : decode cX2_within 15 = .ok (.ireturn, 1) := by decide +kernel
theorem dX2_nearest_0 : decode cX2_nearest 0 = .ok (.aload_n 0, 1) := by decide +kernel
theorem dX2_nearest_1 : decode cX2_nearest 1 = .ok (.getfield 24, 3) := by decide +kernel
theorem dX2_nearest_4 : decode cX2_nearest 4 = .ok (.invokevirtual 35, 3) := by decide +kernel
theorem dX2_nearest_7 : decode cX2_nearest 7 = .ok (.istore 4, 2) := by decide +kernel
theorem dX2_nearest_9 : decode cX2_nearest 9 = .ok (.iload 4, 2) := by decide +kernel
theorem dX2_nearest_11 : decode cX2_nearest 11 = .ok (.bipush 53, 2) := by decide +kernel
theorem dX2_nearest_13 : decode cX2_nearest 13 = .ok (.isub, 1) := by decide +kernel
theorem dX2_nearest_14 : decode cX2_nearest 14 = .ok (.sipush (-1074), 3) := by decide +kernel
theorem dX2_nearest_17 : decode cX2_nearest 17 = .ok (.iload_n 2, 1) := by decide +kernel
theorem dX2_nearest_18 : decode cX2_nearest 18 = .ok (.isub, 1) := by decide +kernel
theorem dX2_nearest_19 : decode cX2_nearest 19 = .ok (.if_icmp .le 11, 3) := by decide +kernel
theorem dX2_nearest_22 : decode cX2_nearest 22 = .ok (.iload 4, 2) := by decide +kernel
theorem dX2_nearest_24 : decode cX2_nearest 24 = .ok (.bipush 53, 2) := by decide +kernel
theorem dX2_nearest_26 : decode cX2_nearest 26 = .ok (.isub, 1) := by decide +kernel
theorem dX2_nearest_27 : decode cX2_nearest 27 = .ok (.goto 8, 3) := by decide +kernel
theorem dX2_nearest_30 : decode cX2_nearest 30 = .ok (.sipush (-1074), 3) := by decide +kernel
theorem dX2_nearest_33 : decode cX2_nearest 33 = .ok (.iload_n 2, 1) := by decide +kernel
theorem dX2_nearest_34 : decode cX2_nearest 34 = .ok (.isub, 1) := by decide +kernel
theorem dX2_nearest_35 : decode cX2_nearest 35 = .ok (.istore 5, 2) := by decide +kernel
theorem dX2_nearest_37 : decode cX2_nearest 37 = .ok (.aload_n 0, 1) := by decide +kernel
theorem dX2_nearest_38 : decode cX2_nearest 38 = .ok (.iload_n 1, 1) := by decide +kernel
theorem dX2_nearest_39 : decode cX2_nearest 39 = .ok (.putfield 39, 3) := by decide +kernel
theorem dX2_nearest_42 : decode cX2_nearest 42 = .ok (.iload 5, 2) := by decide +kernel
theorem dX2_nearest_44 : decode cX2_nearest 44 = .ok (.ifCond .gt 23, 3) := by decide +kernel
theorem dX2_nearest_47 : decode cX2_nearest 47 = .ok (.aload_n 0, 1) := by decide +kernel
theorem dX2_nearest_48 : decode cX2_nearest 48 = .ok (.aload_n 0, 1) := by decide +kernel
theorem dX2_nearest_49 : decode cX2_nearest 49 = .ok (.getfield 24, 3) := by decide +kernel
theorem dX2_nearest_52 : decode cX2_nearest 52 = .ok (.iconst 0, 1) := by decide +kernel
theorem dX2_nearest_53 : decode cX2_nearest 53 = .ok (.invokevirtual 43, 3) := by decide +kernel
theorem dX2_nearest_56 : decode cX2_nearest 56 = .ok (.putfield 47, 3) := by decide +kernel
theorem dX2_nearest_59 : decode cX2_nearest 59 = .ok (.aload_n 0, 1) := by decide +kernel
theorem dX2_nearest_60 : decode cX2_nearest 60 = .ok (.iload_n 2, 1) := by decide +kernel
theorem dX2_nearest_61 : decode cX2_nearest 61 = .ok (.putfield 51, 3) := by decide +kernel
theorem dX2_nearest_64 : decode cX2_nearest 64 = .ok (.goto 98, 3) := by decide +kernel
theorem dX2_nearest_67 : decode cX2_nearest 67 = .ok (.aload_n 0, 1) := by decide +kernel
theorem dX2_nearest_68 : decode cX2_nearest 68 = .ok (.aload_n 0, 1) := by decide +kernel
theorem dX2_nearest_69 : decode cX2_nearest 69 = .ok (.getfield 24, 3) := by decide +kernel
theorem dX2_nearest_72 : decode cX2_nearest 72 = .ok (.iload 5, 2) := by decide +kernel
theorem dX2_nearest_74 : decode cX2_nearest 74 = .ok (.invokevirtual 43, 3) := by decide +kernel
theorem dX2_nearest_77 : decode cX2_nearest 77 = .ok (.putfield 47, 3) := by decide +kernel
theorem dX2_nearest_80 : decode cX2_nearest 80 = .ok (.aload_n 0, 1) := by decide +kernel
theorem dX2_nearest_81 : decode cX2_nearest 81 = .ok (.iload_n 2, 1) := by decide +kernel
theorem dX2_nearest_82 : decode cX2_nearest 82 = .ok (.iload 5, 2) := by decide +kernel
theorem dX2_nearest_84 : decode cX2_nearest 84 = .ok (.iadd, 1) := by decide +kernel
theorem dX2_nearest_85 : decode cX2_nearest 85 = .ok (.putfield 51, 3) := by decide +kernel
theorem dX2_nearest_88 : decode cX2_nearest 88 = .ok (.iload_n 3, 1) := by decide +kernel
theorem dX2_nearest_89 : decode cX2_nearest 89 = .ok (.ifCond .ne 17, 3) := by decide +kernel
theorem dX2_nearest_92 : decode cX2_nearest 92 = .ok (.aload_n 0, 1) := by decide +kernel
theorem dX2_nearest_93 : decode cX2_nearest 93 = .ok (.getfield 24, 3) := by decide +kernel
theorem dX2_nearest_96 : decode cX2_nearest 96 = .ok (.iload 5, 2) := by decide +kernel
theorem dX2_nearest_98 : decode cX2_nearest 98 = .ok (.iconst 1, 1) := by decide +kernel
theorem dX2_nearest_99 : decode cX2_nearest 99 = .ok (.isub, 1) := by decide +kernel
theorem dX2_nearest_100 : decode cX2_nearest 100 = .ok (.invokevirtual 54, 3) := by decide +kernel
theorem dX2_nearest_103 : decode cX2_nearest 103 = .ok (.ifCond .eq 7, 3) := by decide +kernel
theorem dX2_nearest_106 : decode cX2_nearest 106 = .ok (.iconst 1, 1) := by decide +kernel
theorem dX2_nearest_107 : decode cX2_nearest 107 = .ok (.goto 4, 3) := by decide +kernel
theorem dX2_nearest_110 : decode cX2_nearest 110 = .ok (.iconst 0, 1) := by decide +kernel
theorem dX2_nearest_111 : decode cX2_nearest 111 = .ok (.istore 6, 2) := by decide +kernel
theorem dX2_nearest_113 : decode cX2_nearest 113 = .ok (.aload_n 0, 1) := by decide +kernel
theorem dX2_nearest_114 : decode cX2_nearest 114 = .ok (.aload_n 0, 1) := by decide +kernel
theorem dX2_nearest_115 : decode cX2_nearest 115 = .ok (.getfield 24, 3) := by decide +kernel
theorem dX2_nearest_118 : decode cX2_nearest 118 = .ok (.iload 5, 2) := by decide +kernel
theorem dX2_nearest_120 : decode cX2_nearest 120 = .ok (.iconst 1, 1) := by decide +kernel
theorem dX2_nearest_121 : decode cX2_nearest 121 = .ok (.isub, 1) := by decide +kernel
theorem dX2_nearest_122 : decode cX2_nearest 122 = .ok (.invokevirtual 58, 3) := by decide +kernel
theorem dX2_nearest_125 : decode cX2_nearest 125 = .ok (.ifCond .eq 30, 3) := by decide +kernel
theorem dX2_nearest_128 : decode cX2_nearest 128 = .ok (.iload 6, 2) := by decide +kernel
theorem dX2_nearest_130 : decode cX2_nearest 130 = .ok (.ifCond .ne 16, 3) := by decide +kernel
theorem dX2_nearest_133 : decode cX2_nearest 133 = .ok (.aload_n 0, 1) := by decide +kernel
theorem dX2_nearest_134 : decode cX2_nearest 134 = .ok (.getfield 47, 3) := by decide +kernel
theorem dX2_nearest_137 : decode cX2_nearest 137 = .ok (.ldc2_w 61, 3) := by decide +kernel
theorem dX2_nearest_140 : decode cX2_nearest 140 = .ok (.lrem, 1) := by decide +kernel
theorem dX2_nearest_141 : decode cX2_nearest 141 = .ok (.lconst 1, 1) := by decide +kernel
theorem dX2_nearest_142 : decode cX2_nearest 142 = .ok (.lcmp, 1) := by decide +kernel
theorem dX2_nearest_143 : decode cX2_nearest 143 = .ok (.ifCond .ne 12, 3) := by decide +kernel
theorem dX2_nearest_146 : decode cX2_nearest 146 = .ok (.aload_n 0, 1) := by decide +kernel
theorem dX2_nearest_147 : decode cX2_nearest 147 = .ok (.getfield 47, 3) := by decide +kernel
theorem dX2_nearest_150 : decode cX2_nearest 150 = .ok (.lconst 1, 1) := by decide +kernel
theorem dX2_nearest_151 : decode cX2_nearest 151 = .ok (.ladd, 1) := by decide +kernel
theorem dX2_nearest_152 : decode cX2_nearest 152 = .ok (.goto 7, 3) := by decide +kernel
theorem dX2_nearest_155 : decode cX2_nearest 155 = .ok (.aload_n 0, 1) := by decide +kernel
theorem dX2_nearest_156 : decode cX2_nearest 156 = .ok (.getfield 47, 3) := by decide +kernel
theorem dX2_nearest_159 : decode cX2_nearest 159 = .ok (.putfield 47, 3) := by decide +kernel
theorem dX2_nearest_162 : decode cX2_nearest 162 = .ok (.aload_n 0, 1) := by decide +kernel
theorem dX2_nearest_163 : decode cX2_nearest 163 = .ok (.invokevirtual 63, 3) := by decide +kernel
theorem dX2_nearest_166 : decode cX2_nearest 166 = .ok (.ireturn, 1) := by decide +kernel
theorem dX2_settle_0 : decode cX2_settle 0 = .ok (.aload_n 0, 1) := by decide +kernel
theorem dX2_settle_1 : decode cX2_settle 1 = .ok (.getfield 47, 3) := by decide +kernel
theorem dX2_settle_4 : decode cX2_settle 4 = .ok (.lconst 0, 1) := by decide +kernel
theorem dX2_settle_5 : decode cX2_settle 5 = .ok (.lcmp, 1) := by decide +kernel
theorem dX2_settle_6 : decode cX2_settle 6 = .ok (.ifCond .ne 15, 3) := by decide +kernel
theorem dX2_settle_9 : decode cX2_settle 9 = .ok (.aload_n 0, 1) := by decide +kernel
theorem dX2_settle_10 : decode cX2_settle 10 = .ok (.iconst 0, 1) := by decide +kernel
theorem dX2_settle_11 : decode cX2_settle 11 = .ok (.putfield 39, 3) := by decide +kernel
theorem dX2_settle_14 : decode cX2_settle 14 = .ok (.aload_n 0, 1) := by decide +kernel
theorem dX2_settle_15 : decode cX2_settle 15 = .ok (.sipush (-1074), 3) := by decide +kernel
theorem dX2_settle_18 : decode cX2_settle 18 = .ok (.putfield 51, 3) := by decide +kernel
theorem dX2_settle_21 : decode cX2_settle 21 = .ok (.aload_n 0, 1) := by decide +kernel
theorem dX2_settle_22 : decode cX2_settle 22 = .ok (.getfield 47, 3) := by decide +kernel
theorem dX2_settle_25 : decode cX2_settle 25 = .ok (.ldc2_w 66, 3) := by decide +kernel
theorem dX2_settle_28 : decode cX2_settle 28 = .ok (.lcmp, 1) := by decide +kernel
theorem dX2_settle_29 : decode cX2_settle 29 = .ok (.ifCond .lt 28, 3) := by decide +kernel
theorem dX2_settle_32 : decode cX2_settle 32 = .ok (.aload_n 0, 1) := by decide +kernel
theorem dX2_settle_33 : decode cX2_settle 33 = .ok (.aload_n 0, 1) := by decide +kernel
theorem dX2_settle_34 : decode cX2_settle 34 = .ok (.getfield 47, 3) := by decide +kernel
theorem dX2_settle_37 : decode cX2_settle 37 = .ok (.ldc2_w 61, 3) := by decide +kernel
theorem dX2_settle_40 : decode cX2_settle 40 = .ok (.ldiv, 1) := by decide +kernel
theorem dX2_settle_41 : decode cX2_settle 41 = .ok (.putfield 47, 3) := by decide +kernel
theorem dX2_settle_44 : decode cX2_settle 44 = .ok (.aload_n 0, 1) := by decide +kernel
theorem dX2_settle_45 : decode cX2_settle 45 = .ok (.dup, 1) := by decide +kernel
theorem dX2_settle_46 : decode cX2_settle 46 = .ok (.getfield 51, 3) := by decide +kernel
theorem dX2_settle_49 : decode cX2_settle 49 = .ok (.iconst 1, 1) := by decide +kernel
theorem dX2_settle_50 : decode cX2_settle 50 = .ok (.iadd, 1) := by decide +kernel
theorem dX2_settle_51 : decode cX2_settle 51 = .ok (.putfield 51, 3) := by decide +kernel
theorem dX2_settle_54 : decode cX2_settle 54 = .ok (.goto (-33), 3) := by decide +kernel
theorem dX2_settle_57 : decode cX2_settle 57 = .ok (.aload_n 0, 1) := by decide +kernel
theorem dX2_settle_58 : decode cX2_settle 58 = .ok (.getfield 47, 3) := by decide +kernel
theorem dX2_settle_61 : decode cX2_settle 61 = .ok (.lconst 0, 1) := by decide +kernel
theorem dX2_settle_62 : decode cX2_settle 62 = .ok (.lcmp, 1) := by decide +kernel
theorem dX2_settle_63 : decode cX2_settle 63 = .ok (.ifCond .le 49, 3) := by decide +kernel
theorem dX2_settle_66 : decode cX2_settle 66 = .ok (.aload_n 0, 1) := by decide +kernel
theorem dX2_settle_67 : decode cX2_settle 67 = .ok (.getfield 47, 3) := by decide +kernel
theorem dX2_settle_70 : decode cX2_settle 70 = .ok (.ldc2_w 68, 3) := by decide +kernel
theorem dX2_settle_73 : decode cX2_settle 73 = .ok (.lcmp, 1) := by decide +kernel
theorem dX2_settle_74 : decode cX2_settle 74 = .ok (.ifCond .ge 38, 3) := by decide +kernel
theorem dX2_settle_77 : decode cX2_settle 77 = .ok (.aload_n 0, 1) := by decide +kernel
theorem dX2_settle_78 : decode cX2_settle 78 = .ok (.getfield 51, 3) := by decide +kernel
theorem dX2_settle_81 : decode cX2_settle 81 = .ok (.sipush (-1074), 3) := by decide +kernel
theorem dX2_settle_84 : decode cX2_settle 84 = .ok (.if_icmp .le 28, 3) := by decide +kernel
theorem dX2_settle_87 : decode cX2_settle 87 = .ok (.aload_n 0, 1) := by decide +kernel
theorem dX2_settle_88 : decode cX2_settle 88 = .ok (.ldc2_w 61, 3) := by decide +kernel
theorem dX2_settle_91 : decode cX2_settle 91 = .ok (.aload_n 0, 1) := by decide +kernel
theorem dX2_settle_92 : decode cX2_settle 92 = .ok (.getfield 47, 3) := by decide +kernel
theorem dX2_settle_95 : decode cX2_settle 95 = .ok (.lmul, 1) := by decide +kernel
theorem dX2_settle_96 : decode cX2_settle 96 = .ok (.putfield 47, 3) := by decide +kernel
theorem dX2_settle_99 : decode cX2_settle 99 = .ok (.aload_n 0, 1) := by decide +kernel
theorem dX2_settle_100 : decode cX2_settle 100 = .ok (.dup, 1) := by decide +kernel
theorem dX2_settle_101 : decode cX2_settle 101 = .ok (.getfield 51, 3) := by decide +kernel
theorem dX2_settle_104 : decode cX2_settle 104 = .ok (.iconst 1, 1) := by decide +kernel
theorem dX2_settle_105 : decode cX2_settle 105 = .ok (.isub, 1) := by decide +kernel
theorem dX2_settle_106 : decode cX2_settle 106 = .ok (.putfield 51, 3) := by decide +kernel
theorem dX2_settle_109 : decode cX2_settle 109 = .ok (.goto (-52), 3) := by decide +kernel
theorem dX2_settle_112 : decode cX2_settle 112 = .ok (.aload_n 0, 1) := by decide +kernel
theorem dX2_settle_113 : decode cX2_settle 113 = .ok (.getfield 51, 3) := by decide +kernel
theorem dX2_settle_116 : decode cX2_settle 116 = .ok (.sipush 971, 3) := by decide +kernel
theorem dX2_settle_119 : decode cX2_settle 119 = .ok (.if_icmp .le 7, 3) := by decide +kernel
theorem dX2_settle_122 : decode cX2_settle 122 = .ok (.iconst (-1), 1) := by decide +kernel
theorem dX2_settle_123 : decode cX2_settle 123 = .ok (.goto 4, 3) := by decide +kernel
theorem dX2_settle_126 : decode cX2_settle 126 = .ok (.iconst 0, 1) := by decide +kernel
theorem dX2_settle_127 : decode cX2_settle 127 = .ok (.ireturn, 1) := by decide +kernel
theorem dX2_take_0 : decode cX2_take 0 = .ok (.aload_n 0, 1) := by decide +kernel
theorem dX2_take_1 : decode cX2_take 1 = .ok (.aload_n 0, 1) := by decide +kernel
theorem dX2_take_2 : decode cX2_take 2 = .ok (.getfield 7, 3) := by decide +kernel
theorem dX2_take_5 : decode cX2_take 5 = .ok (.iload_n 1, 1) := by decide +kernel
theorem dX2_take_6 : decode cX2_take 6 = .ok (.baload, 1) := by decide +kernel
theorem dX2_take_7 : decode cX2_take 7 = .ok (.putfield 39, 3) := by decide +kernel
theorem dX2_take_10 : decode cX2_take 10 = .ok (.aload_n 0, 1) := by decide +kernel
theorem dX2_take_11 : decode cX2_take 11 = .ok (.aload_n 0, 1) := by decide +kernel
theorem dX2_take_12 : decode cX2_take 12 = .ok (.getfield 13, 3) := by decide +kernel
theorem dX2_take_15 : decode cX2_take 15 = .ok (.iload_n 1, 1) := by decide +kernel
theorem dX2_take_16 : decode cX2_take 16 = .ok (.laload, 1) := by decide +kernel
theorem dX2_take_17 : decode cX2_take 17 = .ok (.putfield 47, 3) := by decide +kernel
theorem dX2_take_20 : decode cX2_take 20 = .ok (.aload_n 0, 1) := by decide +kernel
theorem dX2_take_21 : decode cX2_take 21 = .ok (.aload_n 0, 1) := by decide +kernel
theorem dX2_take_22 : decode cX2_take 22 = .ok (.getfield 17, 3) := by decide +kernel
theorem dX2_take_25 : decode cX2_take 25 = .ok (.iload_n 1, 1) := by decide +kernel
theorem dX2_take_26 : decode cX2_take 26 = .ok (.iaload, 1) := by decide +kernel
theorem dX2_take_27 : decode cX2_take 27 = .ok (.putfield 51, 3) := by decide +kernel
theorem dX2_take_30 : decode cX2_take 30 = .ok (.return_, 1) := by decide +kernel
theorem dX2_keep_0 : decode cX2_keep 0 = .ok (.iload_n 2, 1) := by decide +kernel
theorem dX2_keep_1 : decode cX2_keep 1 = .ok (.ifCond .ne 33, 3) := by decide +kernel
theorem dX2_keep_4 : decode cX2_keep 4 = .ok (.aload_n 0, 1) := by decide +kernel
theorem dX2_keep_5 : decode cX2_keep 5 = .ok (.getfield 7, 3) := by decide +kernel
theorem dX2_keep_8 : decode cX2_keep 8 = .ok (.iload_n 1, 1) := by decide +kernel
theorem dX2_keep_9 : decode cX2_keep 9 = .ok (.aload_n 0, 1) := by decide +kernel
theorem dX2_keep_10 : decode cX2_keep 10 = .ok (.getfield 39, 3) := by decide +kernel
theorem dX2_keep_13 : decode cX2_keep 13 = .ok (.bastore, 1) := by decide +kernel
theorem dX2_keep_14 : decode cX2_keep 14 = .ok (.aload_n 0, 1) := by decide +kernel
theorem dX2_keep_15 : decode cX2_keep 15 = .ok (.getfield 13, 3) := by decide +kernel
theorem dX2_keep_18 : decode cX2_keep 18 = .ok (.iload_n 1, 1) := by decide +kernel
theorem dX2_keep_19 : decode cX2_keep 19 = .ok (.aload_n 0, 1) := by decide +kernel
theorem dX2_keep_20 : decode cX2_keep 20 = .ok (.getfield 47, 3) := by decide +kernel
theorem dX2_keep_23 : decode cX2_keep 23 = .ok (.lastore, 1) := by decide +kernel
theorem dX2_keep_24 : decode cX2_keep 24 = .ok (.aload_n 0, 1) := by decide +kernel
theorem dX2_keep_25 : decode cX2_keep 25 = .ok (.getfield 17, 3) := by decide +kernel
theorem dX2_keep_28 : decode cX2_keep 28 = .ok (.iload_n 1, 1) := by decide +kernel
theorem dX2_keep_29 : decode cX2_keep 29 = .ok (.aload_n 0, 1) := by decide +kernel
theorem dX2_keep_30 : decode cX2_keep 30 = .ok (.getfield 51, 3) := by decide +kernel
theorem dX2_keep_33 : decode cX2_keep 33 = .ok (.iastore, 1) := by decide +kernel
theorem dX2_keep_34 : decode cX2_keep 34 = .ok (.iload_n 2, 1) := by decide +kernel
theorem dX2_keep_35 : decode cX2_keep 35 = .ok (.ireturn, 1) := by decide +kernel
theorem dX2_set_0 : decode cX2_set 0 = .ok (.iload_n 1, 1) := by decide +kernel
theorem dX2_set_1 : decode cX2_set 1 = .ok (.invokestatic 70, 3) := by decide +kernel
theorem dX2_set_4 : decode cX2_set 4 = .ok (.ifCond .eq 37, 3) := by decide +kernel
theorem dX2_set_7 : decode cX2_set 7 = .ok (.lload_n 2, 1) := by decide +kernel
theorem dX2_set_8 : decode cX2_set 8 = .ok (.ldc2_w 73, 3) := by decide +kernel
theorem dX2_set_11 : decode cX2_set 11 = .ok (.lcmp, 1) := by decide +kernel
theorem dX2_set_12 : decode cX2_set 12 = .ok (.ifCond .lt 29, 3) := by decide +kernel
theorem dX2_set_15 : decode cX2_set 15 = .ok (.lload_n 2, 1) := by decide +kernel
theorem dX2_set_16 : decode cX2_set 16 = .ok (.ldc2_w 66, 3) := by decide +kernel
theorem dX2_set_19 : decode cX2_set 19 = .ok (.lcmp, 1) := by decide +kernel
theorem dX2_set_20 : decode cX2_set 20 = .ok (.ifCond .gt 21, 3) := by decide +kernel
theorem dX2_set_23 : decode cX2_set 23 = .ok (.iload 4, 2) := by decide +kernel
theorem dX2_set_25 : decode cX2_set 25 = .ok (.sipush (-1200), 3) := by decide +kernel
theorem dX2_set_28 : decode cX2_set 28 = .ok (.sipush 1100, 3) := by decide +kernel
theorem dX2_set_31 : decode cX2_set 31 = .ok (.invokestatic 75, 3) := by decide +kernel
theorem dX2_set_34 : decode cX2_set 34 = .ok (.ifCond .eq 7, 3) := by decide +kernel
theorem dX2_set_37 : decode cX2_set 37 = .ok (.iconst 1, 1) := by decide +kernel
theorem dX2_set_38 : decode cX2_set 38 = .ok (.goto 4, 3) := by decide +kernel
theorem dX2_set_41 : decode cX2_set 41 = .ok (.iconst 0, 1) := by decide +kernel
theorem dX2_set_42 : decode cX2_set 42 = .ok (.istore 5, 2) := by decide +kernel
theorem dX2_set_44 : decode cX2_set 44 = .ok (.aload_n 0, 1) := by decide +kernel
theorem dX2_set_45 : decode cX2_set 45 = .ok (.iload 5, 2) := by decide +kernel
theorem dX2_set_47 : decode cX2_set 47 = .ok (.ifCond .eq 7, 3) := by decide +kernel
theorem dX2_set_50 : decode cX2_set 50 = .ok (.iconst 0, 1) := by decide +kernel
theorem dX2_set_51 : decode cX2_set 51 = .ok (.goto 4, 3) := by decide +kernel
theorem dX2_set_54 : decode cX2_set 54 = .ok (.iconst 1, 1) := by decide +kernel
theorem dX2_set_55 : decode cX2_set 55 = .ok (.putfield 31, 3) := by decide +kernel
theorem dX2_set_58 : decode cX2_set 58 = .ok (.iload 5, 2) := by decide +kernel
theorem dX2_set_60 : decode cX2_set 60 = .ok (.ifCond .ne 5, 3) := by decide +kernel
theorem dX2_set_63 : decode cX2_set 63 = .ok (.iconst 0, 1) := by decide +kernel
theorem dX2_set_64 : decode cX2_set 64 = .ok (.ireturn, 1) := by decide +kernel
theorem dX2_set_65 : decode cX2_set 65 = .ok (.aload_n 0, 1) := by decide +kernel
theorem dX2_set_66 : decode cX2_set 66 = .ok (.getfield 24, 3) := by decide +kernel
theorem dX2_set_69 : decode cX2_set 69 = .ok (.lload_n 2, 1) := by decide +kernel
theorem dX2_set_70 : decode cX2_set 70 = .ok (.lconst 0, 1) := by decide +kernel
theorem dX2_set_71 : decode cX2_set 71 = .ok (.lcmp, 1) := by decide +kernel
theorem dX2_set_72 : decode cX2_set 72 = .ok (.ifCond .ge 8, 3) := by decide +kernel
theorem dX2_set_75 : decode cX2_set 75 = .ok (.lload_n 2, 1) := by decide +kernel
theorem dX2_set_76 : decode cX2_set 76 = .ok (.lneg, 1) := by decide +kernel
theorem dX2_set_77 : decode cX2_set 77 = .ok (.goto 4, 3) := by decide +kernel
theorem dX2_set_80 : decode cX2_set 80 = .ok (.lload_n 2, 1) := by decide +kernel
theorem dX2_set_81 : decode cX2_set 81 = .ok (.invokevirtual 79, 3) := by decide +kernel
theorem dX2_set_84 : decode cX2_set 84 = .ok (.aload_n 0, 1) := by decide +kernel
theorem dX2_set_85 : decode cX2_set 85 = .ok (.iload_n 1, 1) := by decide +kernel
theorem dX2_set_86 : decode cX2_set 86 = .ok (.aload_n 0, 1) := by decide +kernel
theorem dX2_set_87 : decode cX2_set 87 = .ok (.lload_n 2, 1) := by decide +kernel
theorem dX2_set_88 : decode cX2_set 88 = .ok (.lconst 0, 1) := by decide +kernel
theorem dX2_set_89 : decode cX2_set 89 = .ok (.lcmp, 1) := by decide +kernel
theorem dX2_set_90 : decode cX2_set 90 = .ok (.ifCond .ge 7, 3) := by decide +kernel
theorem dX2_set_93 : decode cX2_set 93 = .ok (.iconst 1, 1) := by decide +kernel
theorem dX2_set_94 : decode cX2_set 94 = .ok (.goto 4, 3) := by decide +kernel
theorem dX2_set_97 : decode cX2_set 97 = .ok (.iconst 0, 1) := by decide +kernel
theorem dX2_set_98 : decode cX2_set 98 = .ok (.iload 4, 2) := by decide +kernel
theorem dX2_set_100 : decode cX2_set 100 = .ok (.iconst 0, 1) := by decide +kernel
theorem dX2_set_101 : decode cX2_set 101 = .ok (.invokevirtual 83, 3) := by decide +kernel
theorem dX2_set_104 : decode cX2_set 104 = .ok (.invokevirtual 87, 3) := by decide +kernel
theorem dX2_set_107 : decode cX2_set 107 = .ok (.ireturn, 1) := by decide +kernel
theorem dX2_sizes_0 : decode cX2_sizes 0 = .ok (.aload_n 0, 1) := by decide +kernel
theorem dX2_sizes_1 : decode cX2_sizes 1 = .ok (.getfield 13, 3) := by decide +kernel
theorem dX2_sizes_4 : decode cX2_sizes 4 = .ok (.iload_n 1, 1) := by decide +kernel
theorem dX2_sizes_5 : decode cX2_sizes 5 = .ok (.laload, 1) := by decide +kernel
theorem dX2_sizes_6 : decode cX2_sizes 6 = .ok (.lconst 0, 1) := by decide +kernel
theorem dX2_sizes_7 : decode cX2_sizes 7 = .ok (.lcmp, 1) := by decide +kernel
theorem dX2_sizes_8 : decode cX2_sizes 8 = .ok (.ifCond .eq 14, 3) := by decide +kernel
theorem dX2_sizes_11 : decode cX2_sizes 11 = .ok (.aload_n 0, 1) := by decide +kernel
theorem dX2_sizes_12 : decode cX2_sizes 12 = .ok (.getfield 13, 3) := by decide +kernel
theorem dX2_sizes_15 : decode cX2_sizes 15 = .ok (.iload_n 2, 1) := by decide +kernel
theorem dX2_sizes_16 : decode cX2_sizes 16 = .ok (.laload, 1) := by decide +kernel
theorem dX2_sizes_17 : decode cX2_sizes 17 = .ok (.lconst 0, 1) := by decide +kernel
theorem dX2_sizes_18 : decode cX2_sizes 18 = .ok (.lcmp, 1) := by decide +kernel
theorem dX2_sizes_19 : decode cX2_sizes 19 = .ok (.ifCond .ne 40, 3) := by decide +kernel
theorem dX2_sizes_22 : decode cX2_sizes 22 = .ok (.aload_n 0, 1) := by decide +kernel
theorem dX2_sizes_23 : decode cX2_sizes 23 = .ok (.getfield 13, 3) := by decide +kernel
theorem dX2_sizes_26 : decode cX2_sizes 26 = .ok (.iload_n 1, 1) := by decide +kernel
theorem dX2_sizes_27 : decode cX2_sizes 27 = .ok (.laload, 1) := by decide +kernel
theorem dX2_sizes_28 : decode cX2_sizes 28 = .ok (.aload_n 0, 1) := by decide +kernel
theorem dX2_sizes_29 : decode cX2_sizes 29 = .ok (.getfield 13, 3) := by decide +kernel
theorem dX2_sizes_32 : decode cX2_sizes 32 = .ok (.iload_n 2, 1) := by decide +kernel
theorem dX2_sizes_33 : decode cX2_sizes 33 = .ok (.laload, 1) := by decide +kernel
theorem dX2_sizes_34 : decode cX2_sizes 34 = .ok (.lcmp, 1) := by decide +kernel
theorem dX2_sizes_35 : decode cX2_sizes 35 = .ok (.ifCond .ne 7, 3) := by decide +kernel
theorem dX2_sizes_38 : decode cX2_sizes 38 = .ok (.iconst 0, 1) := by decide +kernel
theorem dX2_sizes_39 : decode cX2_sizes 39 = .ok (.goto 19, 3) := by decide +kernel
theorem dX2_sizes_42 : decode cX2_sizes 42 = .ok (.aload_n 0, 1) := by decide +kernel
theorem dX2_sizes_43 : decode cX2_sizes 43 = .ok (.getfield 13, 3) := by decide +kernel
theorem dX2_sizes_46 : decode cX2_sizes 46 = .ok (.iload_n 1, 1) := by decide +kernel
theorem dX2_sizes_47 : decode cX2_sizes 47 = .ok (.laload, 1) := by decide +kernel
theorem dX2_sizes_48 : decode cX2_sizes 48 = .ok (.lconst 0, 1) := by decide +kernel
theorem dX2_sizes_49 : decode cX2_sizes 49 = .ok (.lcmp, 1) := by decide +kernel
theorem dX2_sizes_50 : decode cX2_sizes 50 = .ok (.ifCond .ne 7, 3) := by decide +kernel
theorem dX2_sizes_53 : decode cX2_sizes 53 = .ok (.iconst (-1), 1) := by decide +kernel
theorem dX2_sizes_54 : decode cX2_sizes 54 = .ok (.goto 4, 3) := by decide +kernel
theorem dX2_sizes_57 : decode cX2_sizes 57 = .ok (.iconst 1, 1) := by decide +kernel
theorem dX2_sizes_58 : decode cX2_sizes 58 = .ok (.ireturn, 1) := by decide +kernel
theorem dX2_sizes_59 : decode cX2_sizes 59 = .ok (.aload_n 0, 1) := by decide +kernel
theorem dX2_sizes_60 : decode cX2_sizes 60 = .ok (.getfield 17, 3) := by decide +kernel
theorem dX2_sizes_63 : decode cX2_sizes 63 = .ok (.iload_n 1, 1) := by decide +kernel
theorem dX2_sizes_64 : decode cX2_sizes 64 = .ok (.iaload, 1) := by decide +kernel
theorem dX2_sizes_65 : decode cX2_sizes 65 = .ok (.aload_n 0, 1) := by decide +kernel
theorem dX2_sizes_66 : decode cX2_sizes 66 = .ok (.getfield 17, 3) := by decide +kernel
theorem dX2_sizes_69 : decode cX2_sizes 69 = .ok (.iload_n 2, 1) := by decide +kernel
theorem dX2_sizes_70 : decode cX2_sizes 70 = .ok (.iaload, 1) := by decide +kernel
theorem dX2_sizes_71 : decode cX2_sizes 71 = .ok (.if_icmp .eq 24, 3) := by decide +kernel
theorem dX2_sizes_74 : decode cX2_sizes 74 = .ok (.aload_n 0, 1) := by decide +kernel
theorem dX2_sizes_75 : decode cX2_sizes 75 = .ok (.getfield 17, 3) := by decide +kernel
theorem dX2_sizes_78 : decode cX2_sizes 78 = .ok (.iload_n 1, 1) := by decide +kernel
theorem dX2_sizes_79 : decode cX2_sizes 79 = .ok (.iaload, 1) := by decide +kernel
theorem dX2_sizes_80 : decode cX2_sizes 80 = .ok (.aload_n 0, 1) := by decide +kernel
theorem dX2_sizes_81 : decode cX2_sizes 81 = .ok (.getfield 17, 3) := by decide +kernel
theorem dX2_sizes_84 : decode cX2_sizes 84 = .ok (.iload_n 2, 1) := by decide +kernel
theorem dX2_sizes_85 : decode cX2_sizes 85 = .ok (.iaload, 1) := by decide +kernel
theorem dX2_sizes_86 : decode cX2_sizes 86 = .ok (.if_icmp .ge 7, 3) := by decide +kernel
theorem dX2_sizes_89 : decode cX2_sizes 89 = .ok (.iconst (-1), 1) := by decide +kernel
theorem dX2_sizes_90 : decode cX2_sizes 90 = .ok (.goto 4, 3) := by decide +kernel
theorem dX2_sizes_93 : decode cX2_sizes 93 = .ok (.iconst 1, 1) := by decide +kernel
theorem dX2_sizes_94 : decode cX2_sizes 94 = .ok (.ireturn, 1) := by decide +kernel
theorem dX2_sizes_95 : decode cX2_sizes 95 = .ok (.aload_n 0, 1) := by decide +kernel
theorem dX2_sizes_96 : decode cX2_sizes 96 = .ok (.getfield 13, 3) := by decide +kernel
theorem dX2_sizes_99 : decode cX2_sizes 99 = .ok (.iload_n 1, 1) := by decide +kernel
theorem dX2_sizes_100 : decode cX2_sizes 100 = .ok (.laload, 1) := by decide +kernel
theorem dX2_sizes_101 : decode cX2_sizes 101 = .ok (.aload_n 0, 1) := by decide +kernel
theorem dX2_sizes_102 : decode cX2_sizes 102 = .ok (.getfield 13, 3) := by decide +kernel
theorem dX2_sizes_105 : decode cX2_sizes 105 = .ok (.iload_n 2, 1) := by decide +kernel
theorem dX2_sizes_106 : decode cX2_sizes 106 = .ok (.laload, 1) := by decide +kernel
theorem dX2_sizes_107 : decode cX2_sizes 107 = .ok (.lcmp, 1) := by decide +kernel
theorem dX2_sizes_108 : decode cX2_sizes 108 = .ok (.ifCond .ge 7, 3) := by decide +kernel
theorem dX2_sizes_111 : decode cX2_sizes 111 = .ok (.iconst (-1), 1) := by decide +kernel
theorem dX2_sizes_112 : decode cX2_sizes 112 = .ok (.goto 24, 3) := by decide +kernel
theorem dX2_sizes_115 : decode cX2_sizes 115 = .ok (.aload_n 0, 1) := by decide +kernel
theorem dX2_sizes_116 : decode cX2_sizes 116 = .ok (.getfield 13, 3) := by decide +kernel
theorem dX2_sizes_119 : decode cX2_sizes 119 = .ok (.iload_n 1, 1) := by decide +kernel
theorem dX2_sizes_120 : decode cX2_sizes 120 = .ok (.laload, 1) := by decide +kernel
theorem dX2_sizes_121 : decode cX2_sizes 121 = .ok (.aload_n 0, 1) := by decide +kernel
theorem dX2_sizes_122 : decode cX2_sizes 122 = .ok (.getfield 13, 3) := by decide +kernel
theorem dX2_sizes_125 : decode cX2_sizes 125 = .ok (.iload_n 2, 1) := by decide +kernel
theorem dX2_sizes_126 : decode cX2_sizes 126 = .ok (.laload, 1) := by decide +kernel
theorem dX2_sizes_127 : decode cX2_sizes 127 = .ok (.lcmp, 1) := by decide +kernel
theorem dX2_sizes_128 : decode cX2_sizes 128 = .ok (.ifCond .ne 7, 3) := by decide +kernel
theorem dX2_sizes_131 : decode cX2_sizes 131 = .ok (.iconst 0, 1) := by decide +kernel
theorem dX2_sizes_132 : decode cX2_sizes 132 = .ok (.goto 4, 3) := by decide +kernel
theorem dX2_sizes_135 : decode cX2_sizes 135 = .ok (.iconst 1, 1) := by decide +kernel
theorem dX2_sizes_136 : decode cX2_sizes 136 = .ok (.ireturn, 1) := by decide +kernel
theorem dX2_compareNumbers_0 : decode cX2_compareNumbers 0 = .ok (.aload_n 0, 1) := by decide +kernel
theorem dX2_compareNumbers_1 : decode cX2_compareNumbers 1 = .ok (.iload_n 1, 1) := by decide +kernel
theorem dX2_compareNumbers_2 : decode cX2_compareNumbers 2 = .ok (.iload_n 2, 1) := by decide +kernel
theorem dX2_compareNumbers_3 : decode cX2_compareNumbers 3 = .ok (.invokevirtual 91, 3) := by decide +kernel
theorem dX2_compareNumbers_6 : decode cX2_compareNumbers 6 = .ok (.istore_n 3, 1) := by decide +kernel
theorem dX2_compareNumbers_7 : decode cX2_compareNumbers 7 = .ok (.aload_n 0, 1) := by decide +kernel
theorem dX2_compareNumbers_8 : decode cX2_compareNumbers 8 = .ok (.getfield 7, 3) := by decide +kernel
theorem dX2_compareNumbers_11 : decode cX2_compareNumbers 11 = .ok (.iload_n 1, 1) := by decide +kernel
theorem dX2_compareNumbers_12 : decode cX2_compareNumbers 12 = .ok (.baload, 1) := by decide +kernel
theorem dX2_compareNumbers_13 : decode cX2_compareNumbers 13 = .ok (.aload_n 0, 1) := by decide +kernel
theorem dX2_compareNumbers_14 : decode cX2_compareNumbers 14 = .ok (.getfield 7, 3) := by decide +kernel
theorem dX2_compareNumbers_17 : decode cX2_compareNumbers 17 = .ok (.iload_n 2, 1) := by decide +kernel
theorem dX2_compareNumbers_18 : decode cX2_compareNumbers 18 = .ok (.baload, 1) := by decide +kernel
theorem dX2_compareNumbers_19 : decode cX2_compareNumbers 19 = .ok (.if_icmp .eq 18, 3) := by decide +kernel
theorem dX2_compareNumbers_22 : decode cX2_compareNumbers 22 = .ok (.aload_n 0, 1) := by decide +kernel
theorem dX2_compareNumbers_23 : decode cX2_compareNumbers 23 = .ok (.getfield 7, 3) := by decide +kernel
theorem dX2_compareNumbers_26 : decode cX2_compareNumbers 26 = .ok (.iload_n 1, 1) := by decide +kernel
theorem dX2_compareNumbers_27 : decode cX2_compareNumbers 27 = .ok (.baload, 1) := by decide +kernel
theorem dX2_compareNumbers_28 : decode cX2_compareNumbers 28 = .ok (.ifCond .eq 7, 3) := by decide +kernel
theorem dX2_compareNumbers_31 : decode cX2_compareNumbers 31 = .ok (.iconst (-1), 1) := by decide +kernel
theorem dX2_compareNumbers_32 : decode cX2_compareNumbers 32 = .ok (.goto 4, 3) := by decide +kernel
theorem dX2_compareNumbers_35 : decode cX2_compareNumbers 35 = .ok (.iconst 1, 1) := by decide +kernel
theorem dX2_compareNumbers_36 : decode cX2_compareNumbers 36 = .ok (.ireturn, 1) := by decide +kernel
theorem dX2_compareNumbers_37 : decode cX2_compareNumbers 37 = .ok (.aload_n 0, 1) := by decide +kernel
theorem dX2_compareNumbers_38 : decode cX2_compareNumbers 38 = .ok (.getfield 7, 3) := by decide +kernel
theorem dX2_compareNumbers_41 : decode cX2_compareNumbers 41 = .ok (.iload_n 1, 1) := by decide +kernel
theorem dX2_compareNumbers_42 : decode cX2_compareNumbers 42 = .ok (.baload, 1) := by decide +kernel
theorem dX2_compareNumbers_43 : decode cX2_compareNumbers 43 = .ok (.ifCond .eq 8, 3) := by decide +kernel
theorem dX2_compareNumbers_46 : decode cX2_compareNumbers 46 = .ok (.iload_n 3, 1) := by decide +kernel
theorem dX2_compareNumbers_47 : decode cX2_compareNumbers 47 = .ok (.ineg, 1) := by decide +kernel
theorem dX2_compareNumbers_48 : decode cX2_compareNumbers 48 = .ok (.goto 4, 3) := by decide +kernel
theorem dX2_compareNumbers_51 : decode cX2_compareNumbers 51 = .ok (.iload_n 3, 1) := by decide +kernel
theorem dX2_compareNumbers_52 : decode cX2_compareNumbers 52 = .ok (.ireturn, 1) := by decide +kernel
theorem dX2_exactSum_0 : decode cX2_exactSum 0 = .ok (.aload_n 0, 1) := by decide +kernel
theorem dX2_exactSum_1 : decode cX2_exactSum 1 = .ok (.getfield 17, 3) := by decide +kernel
theorem dX2_exactSum_4 : decode cX2_exactSum 4 = .ok (.iload_n 1, 1) := by decide +kernel
theorem dX2_exactSum_5 : decode cX2_exactSum 5 = .ok (.iaload, 1) := by decide +kernel
theorem dX2_exactSum_6 : decode cX2_exactSum 6 = .ok (.aload_n 0, 1) := by decide +kernel
theorem dX2_exactSum_7 : decode cX2_exactSum 7 = .ok (.getfield 17, 3) := by decide +kernel
theorem dX2_exactSum_10 : decode cX2_exactSum 10 = .ok (.iload_n 2, 1) := by decide +kernel
theorem dX2_exactSum_11 : decode cX2_exactSum 11 = .ok (.iaload, 1) := by decide +kernel
theorem dX2_exactSum_12 : decode cX2_exactSum 12 = .ok (.if_icmp .ge 12, 3) := by decide +kernel
theorem dX2_exactSum_15 : decode cX2_exactSum 15 = .ok (.aload_n 0, 1) := by decide +kernel
theorem dX2_exactSum_16 : decode cX2_exactSum 16 = .ok (.getfield 17, 3) := by decide +kernel
theorem dX2_exactSum_19 : decode cX2_exactSum 19 = .ok (.iload_n 1, 1) := by decide +kernel
theorem dX2_exactSum_20 : decode cX2_exactSum 20 = .ok (.iaload, 1) := by decide +kernel
theorem dX2_exactSum_21 : decode cX2_exactSum 21 = .ok (.goto 9, 3) := by decide +kernel
theorem dX2_exactSum_24 : decode cX2_exactSum 24 = .ok (.aload_n 0, 1) := by decide +kernel
theorem dX2_exactSum_25 : decode cX2_exactSum 25 = .ok (.getfield 17, 3) := by decide +kernel
theorem dX2_exactSum_28 : decode cX2_exactSum 28 = .ok (.iload_n 2, 1) := by decide +kernel
theorem dX2_exactSum_29 : decode cX2_exactSum 29 = .ok (.iaload, 1) := by decide +kernel
theorem dX2_exactSum_30 : decode cX2_exactSum 30 = .ok (.istore 4, 2) := by decide +kernel
theorem dX2_exactSum_32 : decode cX2_exactSum 32 = .ok (.aload_n 0, 1) := by decide +kernel
theorem dX2_exactSum_33 : decode cX2_exactSum 33 = .ok (.getfield 7, 3) := by decide +kernel
theorem dX2_exactSum_36 : decode cX2_exactSum 36 = .ok (.iload_n 2, 1) := by decide +kernel
theorem dX2_exactSum_37 : decode cX2_exactSum 37 = .ok (.baload, 1) := by decide +kernel
theorem dX2_exactSum_38 : decode cX2_exactSum 38 = .ok (.iload_n 3, 1) := by decide +kernel
theorem dX2_exactSum_39 : decode cX2_exactSum 39 = .ok (.if_icmp .eq 18, 3) := by decide +kernel
theorem dX2_exactSum_42 : decode cX2_exactSum 42 = .ok (.aload_n 0, 1) := by decide +kernel
theorem dX2_exactSum_43 : decode cX2_exactSum 43 = .ok (.getfield 13, 3) := by decide +kernel
theorem dX2_exactSum_46 : decode cX2_exactSum 46 = .ok (.iload_n 2, 1) := by decide +kernel
theorem dX2_exactSum_47 : decode cX2_exactSum 47 = .ok (.laload, 1) := by decide +kernel
theorem dX2_exactSum_48 : decode cX2_exactSum 48 = .ok (.lconst 0, 1) := by decide +kernel
theorem dX2_exactSum_49 : decode cX2_exactSum 49 = .ok (.lcmp, 1) := by decide +kernel
theorem dX2_exactSum_50 : decode cX2_exactSum 50 = .ok (.ifCond .le 7, 3) := by decide +kernel
theorem dX2_exactSum_53 : decode cX2_exactSum 53 = .ok (.iconst 1, 1) := by decide +kernel
theorem dX2_exactSum_54 : decode cX2_exactSum 54 = .ok (.goto 4, 3) := by decide +kernel
theorem dX2_exactSum_57 : decode cX2_exactSum 57 = .ok (.iconst 0, 1) := by decide +kernel
theorem dX2_exactSum_58 : decode cX2_exactSum 58 = .ok (.istore 5, 2) := by decide +kernel
theorem dX2_exactSum_60 : decode cX2_exactSum 60 = .ok (.aload_n 0, 1) := by decide +kernel
theorem dX2_exactSum_61 : decode cX2_exactSum 61 = .ok (.getfield 24, 3) := by decide +kernel
theorem dX2_exactSum_64 : decode cX2_exactSum 64 = .ok (.aload_n 0, 1) := by decide +kernel
theorem dX2_exactSum_65 : decode cX2_exactSum 65 = .ok (.getfield 13, 3) := by decide +kernel
theorem dX2_exactSum_68 : decode cX2_exactSum 68 = .ok (.iload_n 1, 1) := by decide +kernel
theorem dX2_exactSum_69 : decode cX2_exactSum 69 = .ok (.laload, 1) := by decide +kernel
theorem dX2_exactSum_70 : decode cX2_exactSum 70 = .ok (.invokevirtual 79, 3) := by decide +kernel
theorem dX2_exactSum_73 : decode cX2_exactSum 73 = .ok (.aload_n 0, 1) := by decide +kernel
theorem dX2_exactSum_74 : decode cX2_exactSum 74 = .ok (.getfield 24, 3) := by decide +kernel
theorem dX2_exactSum_77 : decode cX2_exactSum 77 = .ok (.aload_n 0, 1) := by decide +kernel
theorem dX2_exactSum_78 : decode cX2_exactSum 78 = .ok (.getfield 17, 3) := by decide +kernel
theorem dX2_exactSum_81 : decode cX2_exactSum 81 = .ok (.iload_n 1, 1) := by decide +kernel
theorem dX2_exactSum_82 : decode cX2_exactSum 82 = .ok (.iaload, 1) := by decide +kernel
theorem dX2_exactSum_83 : decode cX2_exactSum 83 = .ok (.iload 4, 2) := by decide +kernel
theorem dX2_exactSum_85 : decode cX2_exactSum 85 = .ok (.isub, 1) := by decide +kernel
theorem dX2_exactSum_86 : decode cX2_exactSum 86 = .ok (.invokevirtual 94, 3) := by decide +kernel
theorem dX2_exactSum_89 : decode cX2_exactSum 89 = .ok (.aload_n 0, 1) := by decide +kernel
theorem dX2_exactSum_90 : decode cX2_exactSum 90 = .ok (.getfield 28, 3) := by decide +kernel
theorem dX2_exactSum_93 : decode cX2_exactSum 93 = .ok (.aload_n 0, 1) := by decide +kernel
theorem dX2_exactSum_94 : decode cX2_exactSum 94 = .ok (.getfield 13, 3) := by decide +kernel
theorem dX2_exactSum_97 : decode cX2_exactSum 97 = .ok (.iload_n 2, 1) := by decide +kernel
theorem dX2_exactSum_98 : decode cX2_exactSum 98 = .ok (.laload, 1) := by decide +kernel
theorem dX2_exactSum_99 : decode cX2_exactSum 99 = .ok (.invokevirtual 79, 3) := by decide +kernel
theorem dX2_exactSum_102 : decode cX2_exactSum 102 = .ok (.aload_n 0, 1) := by decide +kernel
theorem dX2_exactSum_103 : decode cX2_exactSum 103 = .ok (.getfield 28, 3) := by decide +kernel
theorem dX2_exactSum_106 : decode cX2_exactSum 106 = .ok (.aload_n 0, 1) := by decide +kernel
theorem dX2_exactSum_107 : decode cX2_exactSum 107 = .ok (.getfield 17, 3) := by decide +kernel
theorem dX2_exactSum_110 : decode cX2_exactSum 110 = .ok (.iload_n 2, 1) := by decide +kernel
theorem dX2_exactSum_111 : decode cX2_exactSum 111 = .ok (.iaload, 1) := by decide +kernel
theorem dX2_exactSum_112 : decode cX2_exactSum 112 = .ok (.iload 4, 2) := by decide +kernel
theorem dX2_exactSum_114 : decode cX2_exactSum 114 = .ok (.isub, 1) := by decide +kernel
theorem dX2_exactSum_115 : decode cX2_exactSum 115 = .ok (.invokevirtual 94, 3) := by decide +kernel
theorem dX2_exactSum_118 : decode cX2_exactSum 118 = .ok (.aload_n 0, 1) := by decide +kernel
theorem dX2_exactSum_119 : decode cX2_exactSum 119 = .ok (.getfield 7, 3) := by decide +kernel
theorem dX2_exactSum_122 : decode cX2_exactSum 122 = .ok (.iload_n 1, 1) := by decide +kernel
theorem dX2_exactSum_123 : decode cX2_exactSum 123 = .ok (.baload, 1) := by decide +kernel
theorem dX2_exactSum_124 : decode cX2_exactSum 124 = .ok (.iload 5, 2) := by decide +kernel
theorem dX2_exactSum_126 : decode cX2_exactSum 126 = .ok (.if_icmp .ne 21, 3) := by decide +kernel
theorem dX2_exactSum_129 : decode cX2_exactSum 129 = .ok (.aload_n 0, 1) := by decide +kernel
theorem dX2_exactSum_130 : decode cX2_exactSum 130 = .ok (.getfield 24, 3) := by decide +kernel
theorem dX2_exactSum_133 : decode cX2_exactSum 133 = .ok (.aload_n 0, 1) := by decide +kernel
theorem dX2_exactSum_134 : decode cX2_exactSum 134 = .ok (.getfield 28, 3) := by decide +kernel
theorem dX2_exactSum_137 : decode cX2_exactSum 137 = .ok (.invokevirtual 98, 3) := by decide +kernel
theorem dX2_exactSum_140 : decode cX2_exactSum 140 = .ok (.aload_n 0, 1) := by decide +kernel
theorem dX2_exactSum_141 : decode cX2_exactSum 141 = .ok (.getfield 7, 3) := by decide +kernel
theorem dX2_exactSum_144 : decode cX2_exactSum 144 = .ok (.iload_n 1, 1) := by decide +kernel
theorem dX2_exactSum_145 : decode cX2_exactSum 145 = .ok (.baload, 1) := by decide +kernel
theorem dX2_exactSum_146 : decode cX2_exactSum 146 = .ok (.ireturn, 1) := by decide +kernel
theorem dX2_exactSum_147 : decode cX2_exactSum 147 = .ok (.aload_n 0, 1) := by decide +kernel
theorem dX2_exactSum_148 : decode cX2_exactSum 148 = .ok (.getfield 24, 3) := by decide +kernel
theorem dX2_exactSum_151 : decode cX2_exactSum 151 = .ok (.aload_n 0, 1) := by decide +kernel
theorem dX2_exactSum_152 : decode cX2_exactSum 152 = .ok (.getfield 28, 3) := by decide +kernel
theorem dX2_exactSum_155 : decode cX2_exactSum 155 = .ok (.invokevirtual 102, 3) := by decide +kernel
