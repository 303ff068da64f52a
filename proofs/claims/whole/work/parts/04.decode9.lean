theorem dX9_bad_0 : decode cX9_bad 0 = .ok (.aload_n 0, 1) := by decide +kernel
theorem dX9_bad_1 : decode cX9_bad 1 = .ok (.getfield 1, 3) := by decide +kernel
theorem dX9_bad_4 : decode cX9_bad 4 = .ok (.iconst 0, 1) := by decide +kernel
theorem dX9_bad_5 : decode cX9_bad 5 = .ok (.dup2, 1) := by decide +kernel
theorem dX9_bad_6 : decode cX9_bad 6 = .ok (.iaload, 1) := by decide +kernel
theorem dX9_bad_7 : decode cX9_bad 7 = .ok (.iconst 1, 1) := by decide +kernel
theorem dX9_bad_8 : decode cX9_bad 8 = .ok (.iadd, 1) := by decide +kernel
theorem dX9_bad_9 : decode cX9_bad 9 = .ok (.iastore, 1) := by decide +kernel
theorem dX9_bad_10 : decode cX9_bad 10 = .ok (.bipush (-2), 2) := by decide +kernel
theorem dX9_bad_12 : decode cX9_bad 12 = .ok (.ireturn, 1) := by decide +kernel
theorem dX9_no_0 : decode cX9_no 0 = .ok (.aload_n 0, 1) := by decide +kernel
theorem dX9_no_1 : decode cX9_no 1 = .ok (.getfield 1, 3) := by decide +kernel
theorem dX9_no_4 : decode cX9_no 4 = .ok (.iconst 1, 1) := by decide +kernel
theorem dX9_no_5 : decode cX9_no 5 = .ok (.dup2, 1) := by decide +kernel
theorem dX9_no_6 : decode cX9_no 6 = .ok (.iaload, 1) := by decide +kernel
theorem dX9_no_7 : decode cX9_no 7 = .ok (.iconst 1, 1) := by decide +kernel
theorem dX9_no_8 : decode cX9_no 8 = .ok (.iadd, 1) := by decide +kernel
theorem dX9_no_9 : decode cX9_no 9 = .ok (.iastore, 1) := by decide +kernel
theorem dX9_no_10 : decode cX9_no 10 = .ok (.bipush (-3), 2) := by decide +kernel
theorem dX9_no_12 : decode cX9_no 12 = .ok (.ireturn, 1) := by decide +kernel
theorem dX9_full_0 : decode cX9_full 0 = .ok (.aload_n 0, 1) := by decide +kernel
theorem dX9_full_1 : decode cX9_full 1 = .ok (.getfield 1, 3) := by decide +kernel
theorem dX9_full_4 : decode cX9_full 4 = .ok (.iconst 2, 1) := by decide +kernel
theorem dX9_full_5 : decode cX9_full 5 = .ok (.dup2, 1) := by decide +kernel
theorem dX9_full_6 : decode cX9_full 6 = .ok (.iaload, 1) := by decide +kernel
theorem dX9_full_7 : decode cX9_full 7 = .ok (.iconst 1, 1) := by decide +kernel
theorem dX9_full_8 : decode cX9_full 8 = .ok (.iadd, 1) := by decide +kernel
theorem dX9_full_9 : decode cX9_full 9 = .ok (.iastore, 1) := by decide +kernel
theorem dX9_full_10 : decode cX9_full 10 = .ok (.bipush (-4), 2) := by decide +kernel
theorem dX9_full_12 : decode cX9_full 12 = .ok (.ireturn, 1) := by decide +kernel
theorem dX9_in_0 : decode cX9_in 0 = .ok (.iload_n 0, 1) := by decide +kernel
theorem dX9_in_1 : decode cX9_in 1 = .ok (.iload_n 1, 1) := by decide +kernel
theorem dX9_in_2 : decode cX9_in 2 = .ok (.if_icmp .lt 12, 3) := by decide +kernel
theorem dX9_in_5 : decode cX9_in 5 = .ok (.iload_n 0, 1) := by decide +kernel
theorem dX9_in_6 : decode cX9_in 6 = .ok (.iload_n 2, 1) := by decide +kernel
theorem dX9_in_7 : decode cX9_in 7 = .ok (.if_icmp .gt 7, 3) := by decide +kernel
theorem dX9_in_10 : decode cX9_in 10 = .ok (.iconst 1, 1) := by decide +kernel
theorem dX9_in_11 : decode cX9_in 11 = .ok (.goto 4, 3) := by decide +kernel
theorem dX9_in_14 : decode cX9_in 14 = .ok (.iconst 0, 1) := by decide +kernel
theorem dX9_in_15 : decode cX9_in 15 = .ok (.ireturn, 1) := by decide +kernel
theorem dX9_has_0 : decode cX9_has 0 = .ok (.iload_n 0, 1) := by decide +kernel
theorem dX9_has_1 : decode cX9_has 1 = .ok (.iload_n 1, 1) := by decide +kernel
theorem dX9_has_2 : decode cX9_has 2 = .ok (.ishr, 1) := by decide +kernel
theorem dX9_has_3 : decode cX9_has 3 = .ok (.iconst 1, 1) := by decide +kernel
theorem dX9_has_4 : decode cX9_has 4 = .ok (.iand, 1) := by decide +kernel
theorem dX9_has_5 : decode cX9_has 5 = .ok (.iconst 1, 1) := by decide +kernel
theorem dX9_has_6 : decode cX9_has 6 = .ok (.if_icmp .ne 7, 3) := by decide +kernel
theorem dX9_has_9 : decode cX9_has 9 = .ok (.iconst 1, 1) := by decide +kernel
theorem dX9_has_10 : decode cX9_has 10 = .ok (.goto 4, 3) := by decide +kernel
theorem dX9_has_13 : decode cX9_has 13 = .ok (.iconst 0, 1) := by decide +kernel
theorem dX9_has_14 : decode cX9_has 14 = .ok (.ireturn, 1) := by decide +kernel
theorem dX9_lesser_0 : decode cX9_lesser 0 = .ok (.iload_n 0, 1) := by decide +kernel
theorem dX9_lesser_1 : decode cX9_lesser 1 = .ok (.iload_n 1, 1) := by decide +kernel
theorem dX9_lesser_2 : decode cX9_lesser 2 = .ok (.if_icmp .ge 7, 3) := by decide +kernel
theorem dX9_lesser_5 : decode cX9_lesser 5 = .ok (.iload_n 0, 1) := by decide +kernel
theorem dX9_lesser_6 : decode cX9_lesser 6 = .ok (.goto 4, 3) := by decide +kernel
theorem dX9_lesser_9 : decode cX9_lesser 9 = .ok (.iload_n 1, 1) := by decide +kernel
theorem dX9_lesser_10 : decode cX9_lesser 10 = .ok (.ireturn, 1) := by decide +kernel
theorem dX9_greater_0 : decode cX9_greater 0 = .ok (.iload_n 0, 1) := by decide +kernel
theorem dX9_greater_1 : decode cX9_greater 1 = .ok (.iload_n 1, 1) := by decide +kernel
theorem dX9_greater_2 : decode cX9_greater 2 = .ok (.if_icmp .le 7, 3) := by decide +kernel
theorem dX9_greater_5 : decode cX9_greater 5 = .ok (.iload_n 0, 1) := by decide +kernel
theorem dX9_greater_6 : decode cX9_greater 6 = .ok (.goto 4, 3) := by decide +kernel
theorem dX9_greater_9 : decode cX9_greater 9 = .ok (.iload_n 1, 1) := by decide +kernel
theorem dX9_greater_10 : decode cX9_greater 10 = .ok (.ireturn, 1) := by decide +kernel
theorem dX9_bits_0 : decode cX9_bits 0 = .ok (.iconst 0, 1) := by decide +kernel
theorem dX9_bits_1 : decode cX9_bits 1 = .ok (.istore_n 1, 1) := by decide +kernel
theorem dX9_bits_2 : decode cX9_bits 2 = .ok (.iconst 0, 1) := by decide +kernel
theorem dX9_bits_3 : decode cX9_bits 3 = .ok (.istore_n 2, 1) := by decide +kernel
theorem dX9_bits_4 : decode cX9_bits 4 = .ok (.iload_n 2, 1) := by decide +kernel
theorem dX9_bits_5 : decode cX9_bits 5 = .ok (.bipush 8, 2) := by decide +kernel
theorem dX9_bits_7 : decode cX9_bits 7 = .ok (.if_icmp .ge 17, 3) := by decide +kernel
theorem dX9_bits_10 : decode cX9_bits 10 = .ok (.iload_n 1, 1) := by decide +kernel
theorem dX9_bits_11 : decode cX9_bits 11 = .ok (.iload_n 0, 1) := by decide +kernel
theorem dX9_bits_12 : decode cX9_bits 12 = .ok (.iload_n 2, 1) := by decide +kernel
theorem dX9_bits_13 : decode cX9_bits 13 = .ok (.ishr, 1) := by decide +kernel
theorem dX9_bits_14 : decode cX9_bits 14 = .ok (.iconst 1, 1) := by decide +kernel
theorem dX9_bits_15 : decode cX9_bits 15 = .ok (.iand, 1) := by decide +kernel
theorem dX9_bits_16 : decode cX9_bits 16 = .ok (.iadd, 1) := by decide +kernel
theorem dX9_bits_17 : decode cX9_bits 17 = .ok (.istore_n 1, 1) := by decide +kernel
theorem dX9_bits_18 : decode cX9_bits 18 = .ok (.iinc 2 1, 3) := by decide +kernel
theorem dX9_bits_21 : decode cX9_bits 21 = .ok (.goto (-17), 3) := by decide +kernel
theorem dX9_bits_24 : decode cX9_bits 24 = .ok (.iload_n 1, 1) := by decide +kernel
theorem dX9_bits_25 : decode cX9_bits 25 = .ok (.ireturn, 1) := by decide +kernel
theorem dX9_init_0 : decode cX9_init 0 = .ok (.aload_n 0, 1) := by decide +kernel
theorem dX9_init_1 : decode cX9_init 1 = .ok (.invokespecial 7, 3) := by decide +kernel
theorem dX9_init_4 : decode cX9_init 4 = .ok (.aload_n 0, 1) := by decide +kernel
theorem dX9_init_5 : decode cX9_init 5 = .ok (.iconst 3, 1) := by decide +kernel
theorem dX9_init_6 : decode cX9_init 6 = .ok (.newarray .int, 2) := by decide +kernel
theorem dX9_init_8 : decode cX9_init 8 = .ok (.putfield 1, 3) := by decide +kernel
theorem dX9_init_11 : decode cX9_init 11 = .ok (.aload_n 0, 1) := by decide +kernel
theorem dX9_init_12 : decode cX9_init 12 = .ok (.bipush 6, 2) := by decide +kernel
theorem dX9_init_14 : decode cX9_init 14 = .ok (.newarray .int, 2) := by decide +kernel
theorem dX9_init_16 : decode cX9_init 16 = .ok (.putfield 13, 3) := by decide +kernel
theorem dX9_init_19 : decode cX9_init 19 = .ok (.aload_n 0, 1) := by decide +kernel
theorem dX9_init_20 : decode cX9_init 20 = .ok (.bipush 6, 2) := by decide +kernel
theorem dX9_init_22 : decode cX9_init 22 = .ok (.newarray .int, 2) := by decide +kernel
theorem dX9_init_24 : decode cX9_init 24 = .ok (.putfield 16, 3) := by decide +kernel
theorem dX9_init_27 : decode cX9_init 27 = .ok (.aload_n 0, 1) := by decide +kernel
theorem dX9_init_28 : decode cX9_init 28 = .ok (.bipush 6, 2) := by decide +kernel
theorem dX9_init_30 : decode cX9_init 30 = .ok (.newarray .int, 2) := by decide +kernel
theorem dX9_init_32 : decode cX9_init 32 = .ok (.putfield 19, 3) := by decide +kernel
theorem dX9_init_35 : decode cX9_init 35 = .ok (.aload_n 0, 1) := by decide +kernel
theorem dX9_init_36 : decode cX9_init 36 = .ok (.bipush 6, 2) := by decide +kernel
theorem dX9_init_38 : decode cX9_init 38 = .ok (.newarray .int, 2) := by decide +kernel
theorem dX9_init_40 : decode cX9_init 40 = .ok (.putfield 22, 3) := by decide +kernel
theorem dX9_init_43 : decode cX9_init 43 = .ok (.aload_n 0, 1) := by decide +kernel
theorem dX9_init_44 : decode cX9_init 44 = .ok (.bipush 8, 2) := by decide +kernel
theorem dX9_init_46 : decode cX9_init 46 = .ok (.newarray .int, 2) := by decide +kernel
theorem dX9_init_48 : decode cX9_init 48 = .ok (.putfield 25, 3) := by decide +kernel
theorem dX9_init_51 : decode cX9_init 51 = .ok (.aload_n 0, 1) := by decide +kernel
theorem dX9_init_52 : decode cX9_init 52 = .ok (.bipush 18, 2) := by decide +kernel
theorem dX9_init_54 : decode cX9_init 54 = .ok (.newarray .int, 2) := by decide +kernel
theorem dX9_init_56 : decode cX9_init 56 = .ok (.putfield 28, 3) := by decide +kernel
theorem dX9_init_59 : decode cX9_init 59 = .ok (.aload_n 0, 1) := by decide +kernel
theorem dX9_init_60 : decode cX9_init 60 = .ok (.bipush 24, 2) := by decide +kernel
theorem dX9_init_62 : decode cX9_init 62 = .ok (.newarray .int, 2) := by decide +kernel
theorem dX9_init_64 : decode cX9_init 64 = .ok (.putfield 31, 3) := by decide +kernel
theorem dX9_init_67 : decode cX9_init 67 = .ok (.aload_n 0, 1) := by decide +kernel
theorem dX9_init_68 : decode cX9_init 68 = .ok (.bipush 24, 2) := by decide +kernel
theorem dX9_init_70 : decode cX9_init 70 = .ok (.newarray .int, 2) := by decide +kernel
theorem dX9_init_72 : decode cX9_init 72 = .ok (.putfield 34, 3) := by decide +kernel
theorem dX9_init_75 : decode cX9_init 75 = .ok (.aload_n 0, 1) := by decide +kernel
theorem dX9_init_76 : decode cX9_init 76 = .ok (.sipush 150, 3) := by decide +kernel
theorem dX9_init_79 : decode cX9_init 79 = .ok (.newarray .int, 2) := by decide +kernel
theorem dX9_init_81 : decode cX9_init 81 = .ok (.putfield 37, 3) := by decide +kernel
theorem dX9_init_84 : decode cX9_init 84 = .ok (.aload_n 0, 1) := by decide +kernel
theorem dX9_init_85 : decode cX9_init 85 = .ok (.sipush 300, 3) := by decide +kernel
theorem dX9_init_88 : decode cX9_init 88 = .ok (.newarray .int, 2) := by decide +kernel
theorem dX9_init_90 : decode cX9_init 90 = .ok (.putfield 40, 3) := by decide +kernel
theorem dX9_init_93 : decode cX9_init 93 = .ok (.aload_n 0, 1) := by decide +kernel
theorem dX9_init_94 : decode cX9_init 94 = .ok (.sipush 176, 3) := by decide +kernel
theorem dX9_init_97 : decode cX9_init 97 = .ok (.newarray .int, 2) := by decide +kernel
theorem dX9_init_99 : decode cX9_init 99 = .ok (.putfield 43, 3) := by decide +kernel
theorem dX9_init_102 : decode cX9_init 102 = .ok (.aload_n 0, 1) := by decide +kernel
theorem dX9_init_103 : decode cX9_init 103 = .ok (.bipush 22, 2) := by decide +kernel
theorem dX9_init_105 : decode cX9_init 105 = .ok (.newarray .int, 2) := by decide +kernel
theorem dX9_init_107 : decode cX9_init 107 = .ok (.putfield 46, 3) := by decide +kernel
theorem dX9_init_110 : decode cX9_init 110 = .ok (.aload_n 0, 1) := by decide +kernel
theorem dX9_init_111 : decode cX9_init 111 = .ok (.sipush 164, 3) := by decide +kernel
theorem dX9_init_114 : decode cX9_init 114 = .ok (.newarray .long, 2) := by decide +kernel
theorem dX9_init_116 : decode cX9_init 116 = .ok (.putfield 49, 3) := by decide +kernel
theorem dX9_init_119 : decode cX9_init 119 = .ok (.aload_n 0, 1) := by decide +kernel
theorem dX9_init_120 : decode cX9_init 120 = .ok (.bipush 24, 2) := by decide +kernel
theorem dX9_init_122 : decode cX9_init 122 = .ok (.newarray .int, 2) := by decide +kernel
theorem dX9_init_124 : decode cX9_init 124 = .ok (.putfield 53, 3) := by decide +kernel
theorem dX9_init_127 : decode cX9_init 127 = .ok (.aload_n 0, 1) := by decide +kernel
theorem dX9_init_128 : decode cX9_init 128 = .ok (.lconst 1, 1) := by decide +kernel
theorem dX9_init_129 : decode cX9_init 129 = .ok (.putfield 56, 3) := by decide +kernel
theorem dX9_init_132 : decode cX9_init 132 = .ok (.aload_n 0, 1) := by decide +kernel
theorem dX9_init_133 : decode cX9_init 133 = .ok (.sipush 600, 3) := by decide +kernel
theorem dX9_init_136 : decode cX9_init 136 = .ok (.newarray .int, 2) := by decide +kernel
theorem dX9_init_138 : decode cX9_init 138 = .ok (.putfield 60, 3) := by decide +kernel
theorem dX9_init_141 : decode cX9_init 141 = .ok (.aload_n 0, 1) := by decide +kernel
theorem dX9_init_142 : decode cX9_init 142 = .ok (.iconst 2, 1) := by decide +kernel
theorem dX9_init_143 : decode cX9_init 143 = .ok (.newarray .int, 2) := by decide +kernel
theorem dX9_init_145 : decode cX9_init 145 = .ok (.putfield 63, 3) := by decide +kernel
theorem dX9_init_148 : decode cX9_init 148 = .ok (.aload_n 0, 1) := by decide +kernel
theorem dX9_init_149 : decode cX9_init 149 = .ok (.invokevirtual 66, 3) := by decide +kernel
theorem dX9_init_152 : decode cX9_init 152 = .ok (.return_, 1) := by decide +kernel
theorem dX9_begin_0 : decode cX9_begin 0 = .ok (.aload_n 0, 1) := by decide +kernel
theorem dX9_begin_1 : decode cX9_begin 1 = .ok (.iconst 0, 1) := by decide +kernel
theorem dX9_begin_2 : decode cX9_begin 2 = .ok (.putfield 69, 3) := by decide +kernel
theorem dX9_begin_5 : decode cX9_begin 5 = .ok (.aload_n 0, 1) := by decide +kernel
theorem dX9_begin_6 : decode cX9_begin 6 = .ok (.iconst 0, 1) := by decide +kernel
theorem dX9_begin_7 : decode cX9_begin 7 = .ok (.putfield 73, 3) := by decide +kernel
theorem dX9_begin_10 : decode cX9_begin 10 = .ok (.aload_n 0, 1) := by decide +kernel
theorem dX9_begin_11 : decode cX9_begin 11 = .ok (.iconst 0, 1) := by decide +kernel
theorem dX9_begin_12 : decode cX9_begin 12 = .ok (.putfield 76, 3) := by decide +kernel
theorem dX9_begin_15 : decode cX9_begin 15 = .ok (.aload_n 0, 1) := by decide +kernel
theorem dX9_begin_16 : decode cX9_begin 16 = .ok (.iconst 0, 1) := by decide +kernel
theorem dX9_begin_17 : decode cX9_begin 17 = .ok (.putfield 79, 3) := by decide +kernel
theorem dX9_begin_20 : decode cX9_begin 20 = .ok (.aload_n 0, 1) := by decide +kernel
theorem dX9_begin_21 : decode cX9_begin 21 = .ok (.iconst 0, 1) := by decide +kernel
theorem dX9_begin_22 : decode cX9_begin 22 = .ok (.putfield 82, 3) := by decide +kernel
theorem dX9_begin_25 : decode cX9_begin 25 = .ok (.aload_n 0, 1) := by decide +kernel
theorem dX9_begin_26 : decode cX9_begin 26 = .ok (.iconst 0, 1) := by decide +kernel
theorem dX9_begin_27 : decode cX9_begin 27 = .ok (.putfield 85, 3) := by decide +kernel
theorem dX9_begin_30 : decode cX9_begin 30 = .ok (.aload_n 0, 1) := by decide +kernel
theorem dX9_begin_31 : decode cX9_begin 31 = .ok (.iconst 0, 1) := by decide +kernel
theorem dX9_begin_32 : decode cX9_begin 32 = .ok (.putfield 88, 3) := by decide +kernel
theorem dX9_begin_35 : decode cX9_begin 35 = .ok (.iconst 0, 1) := by decide +kernel
theorem dX9_begin_36 : decode cX9_begin 36 = .ok (.istore_n 1, 1) := by decide +kernel
theorem dX9_begin_37 : decode cX9_begin 37 = .ok (.iload_n 1, 1) := by decide +kernel
theorem dX9_begin_38 : decode cX9_begin 38 = .ok (.bipush 8, 2) := by decide +kernel
theorem dX9_begin_40 : decode cX9_begin 40 = .ok (.if_icmp .ge 16, 3) := by decide +kernel
theorem dX9_begin_43 : decode cX9_begin 43 = .ok (.aload_n 0, 1) := by decide +kernel
theorem dX9_begin_44 : decode cX9_begin 44 = .ok (.getfield 25, 3) := by decide +kernel
theorem dX9_begin_47 : decode cX9_begin 47 = .ok (.iload_n 1, 1) := by decide +kernel
theorem dX9_begin_48 : decode cX9_begin 48 = .ok (.iconst 0, 1) := by decide +kernel
theorem dX9_begin_49 : decode cX9_begin 49 = .ok (.iastore, 1) := by decide +kernel
theorem dX9_begin_50 : decode cX9_begin 50 = .ok (.iinc 1 1, 3) := by decide +kernel
theorem dX9_begin_53 : decode cX9_begin 53 = .ok (.goto (-16), 3) := by decide +kernel
theorem dX9_begin_56 : decode cX9_begin 56 = .ok (.return_, 1) := by decide +kernel
theorem dX9_isOne_0 : decode cX9_isOne 0 = .ok (.iload_n 1, 1) := by decide +kernel
theorem dX9_isOne_1 : decode cX9_isOne 1 = .ok (.iconst 0, 1) := by decide +kernel
theorem dX9_isOne_2 : decode cX9_isOne 2 = .ok (.aload_n 0, 1) := by decide +kernel
theorem dX9_isOne_3 : decode cX9_isOne 3 = .ok (.getfield 69, 3) := by decide +kernel
theorem dX9_isOne_6 : decode cX9_isOne 6 = .ok (.iconst 1, 1) := by decide +kernel
theorem dX9_isOne_7 : decode cX9_isOne 7 = .ok (.isub, 1) := by decide +kernel
theorem dX9_isOne_8 : decode cX9_isOne 8 = .ok (.invokestatic 91, 3) := by decide +kernel
theorem dX9_isOne_11 : decode cX9_isOne 11 = .ok (.ireturn, 1) := by decide +kernel
theorem dX9_isStep_0 : decode cX9_isStep 0 = .ok (.iload_n 0, 1) := by decide +kernel
theorem dX9_isStep_1 : decode cX9_isStep 1 = .ok (.iconst 0, 1) := by decide +kernel
theorem dX9_isStep_2 : decode cX9_isStep 2 = .ok (.bipush 7, 2) := by decide +kernel
theorem dX9_isStep_4 : decode cX9_isStep 4 = .ok (.invokestatic 91, 3) := by decide +kernel
theorem dX9_isStep_7 : decode cX9_isStep 7 = .ok (.ireturn, 1) := by decide +kernel
theorem dX9_house_0 : decode cX9_house 0 = .ok (.aload_n 0, 1) := by decide +kernel
theorem dX9_house_1 : decode cX9_house 1 = .ok (.getfield 69, 3) := by decide +kernel
theorem dX9_house_4 : decode cX9_house 4 = .ok (.istore_n 1, 1) := by decide +kernel
theorem dX9_house_5 : decode cX9_house 5 = .ok (.aload_n 0, 1) := by decide +kernel
theorem dX9_house_6 : decode cX9_house 6 = .ok (.invokevirtual 66, 3) := by decide +kernel
theorem dX9_house_9 : decode cX9_house 9 = .ok (.iload_n 1, 1) := by decide +kernel
theorem dX9_house_10 : decode cX9_house 10 = .ok (.ireturn, 1) := by decide +kernel
theorem dX9_addOne_0 : decode cX9_addOne 0 = .ok (.aload_n 0, 1) := by decide +kernel
theorem dX9_addOne_1 : decode cX9_addOne 1 = .ok (.getfield 13, 3) := by decide +kernel
theorem dX9_addOne_4 : decode cX9_addOne 4 = .ok (.aload_n 0, 1) := by decide +kernel
theorem dX9_addOne_5 : decode cX9_addOne 5 = .ok (.getfield 69, 3) := by decide +kernel
theorem dX9_addOne_8 : decode cX9_addOne 8 = .ok (.iload_n 1, 1) := by decide +kernel
theorem dX9_addOne_9 : decode cX9_addOne 9 = .ok (.iastore, 1) := by decide +kernel
theorem dX9_addOne_10 : decode cX9_addOne 10 = .ok (.aload_n 0, 1) := by decide +kernel
theorem dX9_addOne_11 : decode cX9_addOne 11 = .ok (.getfield 16, 3) := by decide +kernel
theorem dX9_addOne_14 : decode cX9_addOne 14 = .ok (.aload_n 0, 1) := by decide +kernel
theorem dX9_addOne_15 : decode cX9_addOne 15 = .ok (.getfield 69, 3) := by decide +kernel
theorem dX9_addOne_18 : decode cX9_addOne 18 = .ok (.iload_n 2, 1) := by decide +kernel
theorem dX9_addOne_19 : decode cX9_addOne 19 = .ok (.iastore, 1) := by decide +kernel
theorem dX9_addOne_20 : decode cX9_addOne 20 = .ok (.aload_n 0, 1) := by decide +kernel
theorem dX9_addOne_21 : decode cX9_addOne 21 = .ok (.getfield 19, 3) := by decide +kernel
theorem dX9_addOne_24 : decode cX9_addOne 24 = .ok (.aload_n 0, 1) := by decide +kernel
theorem dX9_addOne_25 : decode cX9_addOne 25 = .ok (.getfield 69, 3) := by decide +kernel
theorem dX9_addOne_28 : decode cX9_addOne 28 = .ok (.iconst (-1), 1) := by decide +kernel
theorem dX9_addOne_29 : decode cX9_addOne 29 = .ok (.iastore, 1) := by decide +kernel
theorem dX9_addOne_30 : decode cX9_addOne 30 = .ok (.aload_n 0, 1) := by decide +kernel
theorem dX9_addOne_31 : decode cX9_addOne 31 = .ok (.getfield 22, 3) := by decide +kernel
theorem dX9_addOne_34 : decode cX9_addOne 34 = .ok (.aload_n 0, 1) := by decide +kernel
theorem dX9_addOne_35 : decode cX9_addOne 35 = .ok (.getfield 69, 3) := by decide +kernel
theorem dX9_addOne_38 : decode cX9_addOne 38 = .ok (.iconst 0, 1) := by decide +kernel
theorem dX9_addOne_39 : decode cX9_addOne 39 = .ok (.iastore, 1) := by decide +kernel
theorem dX9_addOne_40 : decode cX9_addOne 40 = .ok (.aload_n 0, 1) := by decide +kernel
theorem dX9_addOne_41 : decode cX9_addOne 41 = .ok (.dup, 1) := by decide +kernel
theorem dX9_addOne_42 : decode cX9_addOne 42 = .ok (.getfield 69, 3) := by decide +kernel
theorem dX9_addOne_45 : decode cX9_addOne 45 = .ok (.iconst 1, 1) := by decide +kernel
theorem dX9_addOne_46 : decode cX9_addOne 46 = .ok (.iadd, 1) := by decide +kernel
theorem dX9_addOne_47 : decode cX9_addOne 47 = .ok (.putfield 69, 3) := by decide +kernel
theorem dX9_addOne_50 : decode cX9_addOne 50 = .ok (.aload_n 0, 1) := by decide +kernel
theorem dX9_addOne_51 : decode cX9_addOne 51 = .ok (.iconst 0, 1) := by decide +kernel
theorem dX9_addOne_52 : decode cX9_addOne 52 = .ok (.putfield 88, 3) := by decide +kernel
theorem dX9_addOne_55 : decode cX9_addOne 55 = .ok (.aload_n 0, 1) := by decide +kernel
theorem dX9_addOne_56 : decode cX9_addOne 56 = .ok (.getfield 69, 3) := by decide +kernel
theorem dX9_addOne_59 : decode cX9_addOne 59 = .ok (.iconst 1, 1) := by decide +kernel
theorem dX9_addOne_60 : decode cX9_addOne 60 = .ok (.isub, 1) := by decide +kernel
theorem dX9_addOne_61 : decode cX9_addOne 61 = .ok (.ireturn, 1) := by decide +kernel
theorem dX9_one_0 : decode cX9_one 0 = .ok (.iload_n 1, 1) := by decide +kernel
theorem dX9_one_1 : decode cX9_one 1 = .ok (.iconst 0, 1) := by decide +kernel
theorem dX9_one_2 : decode cX9_one 2 = .ok (.iconst 5, 1) := by decide +kernel
theorem dX9_one_3 : decode cX9_one 3 = .ok (.invokestatic 91, 3) := by decide +kernel
theorem dX9_one_6 : decode cX9_one 6 = .ok (.ifCond .eq 13, 3) := by decide +kernel
theorem dX9_one_9 : decode cX9_one 9 = .ok (.iload_n 2, 1) := by decide +kernel
theorem dX9_one_10 : decode cX9_one 10 = .ok (.iconst 1, 1) := by decide +kernel
theorem dX9_one_11 : decode cX9_one 11 = .ok (.bipush 12, 2) := by decide +kernel
theorem dX9_one_13 : decode cX9_one 13 = .ok (.invokestatic 91, 3) := by decide +kernel
theorem dX9_one_16 : decode cX9_one 16 = .ok (.ifCond .ne 8, 3) := by decide +kernel
theorem dX9_one_19 : decode cX9_one 19 = .ok (.aload_n 0, 1) := by decide +kernel
theorem dX9_one_20 : decode cX9_one 20 = .ok (.invokevirtual 95, 3) := by decide +kernel
theorem dX9_one_23 : decode cX9_one 23 = .ok (.ireturn, 1) := by decide +kernel
theorem dX9_one_24 : decode cX9_one 24 = .ok (.aload_n 0, 1) := by decide +kernel
theorem dX9_one_25 : decode cX9_one 25 = .ok (.getfield 69, 3) := by decide +kernel
theorem dX9_one_28 : decode cX9_one 28 = .ok (.bipush 6, 2) := by decide +kernel
theorem dX9_one_30 : decode cX9_one 30 = .ok (.if_icmp .ne 10, 3) := by decide +kernel
theorem dX9_one_33 : decode cX9_one 33 = .ok (.aload_n 0, 1) := by decide +kernel
theorem dX9_one_34 : decode cX9_one 34 = .ok (.invokevirtual 99, 3) := by decide +kernel
theorem dX9_one_37 : decode cX9_one 37 = .ok (.goto 9, 3) := by decide +kernel
theorem dX9_one_40 : decode cX9_one 40 = .ok (.aload_n 0, 1) := by decide +kernel
theorem dX9_one_41 : decode cX9_one 41 = .ok (.iload_n 1, 1) := by decide +kernel
theorem dX9_one_42 : decode cX9_one 42 = .ok (.iload_n 2, 1) := by decide +kernel
theorem dX9_one_43 : decode cX9_one 43 = .ok (.invokevirtual 102, 3) := by decide +kernel
theorem dX9_one_46 : decode cX9_one 46 = .ok (.ireturn, 1) := by decide +kernel
theorem dX9_type_0 : decode cX9_type 0 = .ok (.iload_n 1, 1) := by decide +kernel
theorem dX9_type_1 : decode cX9_type 1 = .ok (.iconst 0, 1) := by decide +kernel
theorem dX9_type_2 : decode cX9_type 2 = .ok (.bipush 127, 2) := by decide +kernel
theorem dX9_type_4 : decode cX9_type 4 = .ok (.invokestatic 91, 3) := by decide +kernel
theorem dX9_type_7 : decode cX9_type 7 = .ok (.ifCond .ne 8, 3) := by decide +kernel
theorem dX9_type_10 : decode cX9_type 10 = .ok (.aload_n 0, 1) := by decide +kernel
theorem dX9_type_11 : decode cX9_type 11 = .ok (.invokevirtual 95, 3) := by decide +kernel
theorem dX9_type_14 : decode cX9_type 14 = .ok (.ireturn, 1) := by decide +kernel
theorem dX9_type_15 : decode cX9_type 15 = .ok (.aload_n 0, 1) := by decide +kernel
theorem dX9_type_16 : decode cX9_type 16 = .ok (.getfield 106, 3) := by decide +kernel
theorem dX9_type_19 : decode cX9_type 19 = .ok (.sipush 150, 3) := by decide +kernel
theorem dX9_type_22 : decode cX9_type 22 = .ok (.if_icmp .ne 8, 3) := by decide +kernel
theorem dX9_type_25 : decode cX9_type 25 = .ok (.aload_n 0, 1) := by decide +kernel
theorem dX9_type_26 : decode cX9_type 26 = .ok (.invokevirtual 99, 3) := by decide +kernel
theorem dX9_type_29 : decode cX9_type 29 = .ok (.ireturn, 1) := by decide +kernel
theorem dX9_type_30 : decode cX9_type 30 = .ok (.aload_n 0, 1) := by decide +kernel
theorem dX9_type_31 : decode cX9_type 31 = .ok (.getfield 37, 3) := by decide +kernel
theorem dX9_type_34 : decode cX9_type 34 = .ok (.aload_n 0, 1) := by decide +kernel
theorem dX9_type_35 : decode cX9_type 35 = .ok (.getfield 106, 3) := by decide +kernel
theorem dX9_type_38 : decode cX9_type 38 = .ok (.iload_n 1, 1) := by decide +kernel
theorem dX9_type_39 : decode cX9_type 39 = .ok (.iastore, 1) := by decide +kernel
theorem dX9_type_40 : decode cX9_type 40 = .ok (.aload_n 0, 1) := by decide +kernel
theorem dX9_type_41 : decode cX9_type 41 = .ok (.dup, 1) := by decide +kernel
theorem dX9_type_42 : decode cX9_type 42 = .ok (.getfield 106, 3) := by decide +kernel
theorem dX9_type_45 : decode cX9_type 45 = .ok (.iconst 1, 1) := by decide +kernel
theorem dX9_type_46 : decode cX9_type 46 = .ok (.iadd, 1) := by decide +kernel
theorem dX9_type_47 : decode cX9_type 47 = .ok (.putfield 106, 3) := by decide +kernel
theorem dX9_type_50 : decode cX9_type 50 = .ok (.aload_n 0, 1) := by decide +kernel
theorem dX9_type_51 : decode cX9_type 51 = .ok (.getfield 106, 3) := by decide +kernel
theorem dX9_type_54 : decode cX9_type 54 = .ok (.ireturn, 1) := by decide +kernel
theorem dX9_clear_0 : decode cX9_clear 0 = .ok (.aload_n 0, 1) := by decide +kernel
theorem dX9_clear_1 : decode cX9_clear 1 = .ok (.getfield 106, 3) := by decide +kernel
theorem dX9_clear_4 : decode cX9_clear 4 = .ok (.istore_n 1, 1) := by decide +kernel
theorem dX9_clear_5 : decode cX9_clear 5 = .ok (.aload_n 0, 1) := by decide +kernel
theorem dX9_clear_6 : decode cX9_clear 6 = .ok (.iconst 0, 1) := by decide +kernel
theorem dX9_clear_7 : decode cX9_clear 7 = .ok (.putfield 106, 3) := by decide +kernel
theorem dX9_clear_10 : decode cX9_clear 10 = .ok (.iload_n 1, 1) := by decide +kernel
theorem dX9_clear_11 : decode cX9_clear 11 = .ok (.ireturn, 1) := by decide +kernel
theorem dX9_here_0 : decode cX9_here 0 = .ok (.aload_n 0, 1) := by decide +kernel
theorem dX9_here_1 : decode cX9_here 1 = .ok (.getfield 109, 3) := by decide +kernel
theorem dX9_here_4 : decode cX9_here 4 = .ok (.aload_n 0, 1) := by decide +kernel
theorem dX9_here_5 : decode cX9_here 5 = .ok (.getfield 106, 3) := by decide +kernel
theorem dX9_here_8 : decode cX9_here 8 = .ok (.if_icmp .ge 15, 3) := by decide +kernel
theorem dX9_here_11 : decode cX9_here 11 = .ok (.aload_n 0, 1) := by decide +kernel
theorem dX9_here_12 : decode cX9_here 12 = .ok (.getfield 37, 3) := by decide +kernel
theorem dX9_here_15 : decode cX9_here 15 = .ok (.aload_n 0, 1) := by decide +kernel
theorem dX9_here_16 : decode cX9_here 16 = .ok (.getfield 109, 3) := by decide +kernel
theorem dX9_here_19 : decode cX9_here 19 = .ok (.iaload, 1) := by decide +kernel
theorem dX9_here_20 : decode cX9_here 20 = .ok (.goto 4, 3) := by decide +kernel
theorem dX9_here_23 : decode cX9_here 23 = .ok (.iconst (-1), 1) := by decide +kernel
theorem dX9_here_24 : decode cX9_here 24 = .ok (.ireturn, 1) := by decide +kernel
theorem dX9_skip_0 : decode cX9_skip 0 = .ok (.aload_n 0, 1) := by decide +kernel
theorem dX9_skip_1 : decode cX9_skip 1 = .ok (.invokevirtual 112, 3) := by decide +kernel
theorem dX9_skip_4 : decode cX9_skip 4 = .ok (.bipush 32, 2) := by decide +kernel
theorem dX9_skip_6 : decode cX9_skip 6 = .ok (.if_icmp .ne 16, 3) := by decide +kernel
theorem dX9_skip_9 : decode cX9_skip 9 = .ok (.aload_n 0, 1) := by decide +kernel
theorem dX9_skip_10 : decode cX9_skip 10 = .ok (.dup, 1) := by decide +kernel
theorem dX9_skip_11 : decode cX9_skip 11 = .ok (.getfield 109, 3) := by decide +kernel
theorem dX9_skip_14 : decode cX9_skip 14 = .ok (.iconst 1, 1) := by decide +kernel
theorem dX9_skip_15 : decode cX9_skip 15 = .ok (.iadd, 1) := by decide +kernel
theorem dX9_skip_16 : decode cX9_skip 16 = .ok (.putfield 109, 3) := by decide +kernel
theorem dX9_skip_19 : decode cX9_skip 19 = .ok (.goto (-19), 3) := by decide +kernel
theorem dX9_skip_22 : decode cX9_skip 22 = .ok (.return_, 1) := by decide +kernel
theorem dX9_isLetter_0 : decode cX9_isLetter 0 = .ok (.iload_n 0, 1) := by decide +kernel
theorem dX9_isLetter_1 : decode cX9_isLetter 1 = .ok (.bipush 97, 2) := by decide +kernel
theorem dX9_isLetter_3 : decode cX9_isLetter 3 = .ok (.bipush 122, 2) := by decide +kernel
theorem dX9_isLetter_5 : decode cX9_isLetter 5 = .ok (.invokestatic 91, 3) := by decide +kernel
theorem dX9_isLetter_8 : decode cX9_isLetter 8 = .ok (.ireturn, 1) := by decide +kernel
theorem dX9_isFigure_0 : decode cX9_isFigure 0 = .ok (.iload_n 0, 1) := by decide +kernel
theorem dX9_isFigure_1 : decode cX9_isFigure 1 = .ok (.bipush 48, 2) := by decide +kernel
theorem dX9_isFigure_3 : decode cX9_isFigure 3 = .ok (.bipush 57, 2) := by decide +kernel
theorem dX9_isFigure_5 : decode cX9_isFigure 5 = .ok (.invokestatic 91, 3) := by decide +kernel
theorem dX9_isFigure_8 : decode cX9_isFigure 8 = .ok (.ireturn, 1) := by decide +kernel
theorem dX9_wordSize_0 : decode cX9_wordSize 0 = .ok (.iconst 0, 1) := by decide +kernel
theorem dX9_wordSize_1 : decode cX9_wordSize 1 = .ok (.istore_n 1, 1) := by decide +kernel
theorem dX9_wordSize_2 : decode cX9_wordSize 2 = .ok (.aload_n 0, 1) := by decide +kernel
theorem dX9_wordSize_3 : decode cX9_wordSize 3 = .ok (.getfield 109, 3) := by decide +kernel
theorem dX9_wordSize_6 : decode cX9_wordSize 6 = .ok (.iload_n 1, 1) := by decide +kernel
theorem dX9_wordSize_7 : decode cX9_wordSize 7 = .ok (.iadd, 1) := by decide +kernel
theorem dX9_wordSize_8 : decode cX9_wordSize 8 = .ok (.aload_n 0, 1) := by decide +kernel
theorem dX9_wordSize_9 : decode cX9_wordSize 9 = .ok (.getfield 106, 3) := by decide +kernel
theorem dX9_wordSize_12 : decode cX9_wordSize 12 = .ok (.if_icmp .ge 26, 3) := by decide +kernel
theorem dX9_wordSize_15 : decode cX9_wordSize 15 = .ok (.aload_n 0, 1) := by decide +kernel
theorem dX9_wordSize_16 : decode cX9_wordSize 16 = .ok (.getfield 37, 3) := by decide +kernel
theorem dX9_wordSize_19 : decode cX9_wordSize 19 = .ok (.aload_n 0, 1) := by decide +kernel
theorem dX9_wordSize_20 : decode cX9_wordSize 20 = .ok (.getfield 109, 3) := by decide +kernel
theorem dX9_wordSize_23 : decode cX9_wordSize 23 = .ok (.iload_n 1, 1) := by decide +kernel
theorem dX9_wordSize_24 : decode cX9_wordSize 24 = .ok (.iadd, 1) := by decide +kernel
theorem dX9_wordSize_25 : decode cX9_wordSize 25 = .ok (.iaload, 1) := by decide +kernel
theorem dX9_wordSize_26 : decode cX9_wordSize 26 = .ok (.invokestatic 115, 3) := by decide +kernel
theorem dX9_wordSize_29 : decode cX9_wordSize 29 = .ok (.ifCond .eq 9, 3) := by decide +kernel
theorem dX9_wordSize_32 : decode cX9_wordSize 32 = .ok (.iinc 1 1, 3) := by decide +kernel
theorem dX9_wordSize_35 : decode cX9_wordSize 35 = .ok (.goto (-33), 3) := by decide +kernel
theorem dX9_wordSize_38 : decode cX9_wordSize 38 = .ok (.iload_n 1, 1) := by decide +kernel
theorem dX9_wordSize_39 : decode cX9_wordSize 39 = .ok (.ireturn, 1) := by decide +kernel
theorem dX9_letter_0 : decode cX9_letter 0 = .ok (.aload_n 0, 1) := by decide +kernel
theorem dX9_letter_1 : decode cX9_letter 1 = .ok (.getfield 37, 3) := by decide +kernel
theorem dX9_letter_4 : decode cX9_letter 4 = .ok (.aload_n 0, 1) := by decide +kernel
theorem dX9_letter_5 : decode cX9_letter 5 = .ok (.getfield 109, 3) := by decide +kernel
theorem dX9_letter_8 : decode cX9_letter 8 = .ok (.iload_n 1, 1) := by decide +kernel
theorem dX9_letter_9 : decode cX9_letter 9 = .ok (.iadd, 1) := by decide +kernel
theorem dX9_letter_10 : decode cX9_letter 10 = .ok (.iaload, 1) := by decide +kernel
theorem dX9_letter_11 : decode cX9_letter 11 = .ok (.ireturn, 1) := by decide +kernel
theorem dX9_wordHere_0 : decode cX9_wordHere 0 = .ok (.aload_n 0, 1) := by decide +kernel
theorem dX9_wordHere_1 : decode cX9_wordHere 1 = .ok (.invokevirtual 119, 3) := by decide +kernel
theorem dX9_wordHere_4 : decode cX9_wordHere 4 = .ok (.istore_n 1, 1) := by decide +kernel
theorem dX9_wordHere_5 : decode cX9_wordHere 5 = .ok (.iload_n 1, 1) := by decide +kernel
theorem dX9_wordHere_6 : decode cX9_wordHere 6 = .ok (.iconst 2, 1) := by decide +kernel
theorem dX9_wordHere_7 : decode cX9_wordHere 7 = .ok (.if_icmp .ne 29, 3) := by decide +kernel
theorem dX9_wordHere_10 : decode cX9_wordHere 10 = .ok (.aload_n 0, 1) := by decide +kernel
theorem dX9_wordHere_11 : decode cX9_wordHere 11 = .ok (.iconst 0, 1) := by decide +kernel
theorem dX9_wordHere_12 : decode cX9_wordHere 12 = .ok (.invokevirtual 122, 3) := by decide +kernel
theorem dX9_wordHere_15 : decode cX9_wordHere 15 = .ok (.bipush 97, 2) := by decide +kernel
theorem dX9_wordHere_17 : decode cX9_wordHere 17 = .ok (.if_icmp .ne 17, 3) := by decide +kernel
theorem dX9_wordHere_20 : decode cX9_wordHere 20 = .ok (.aload_n 0, 1) := by decide +kernel
theorem dX9_wordHere_21 : decode cX9_wordHere 21 = .ok (.iconst 1, 1) := by decide +kernel
theorem dX9_wordHere_22 : decode cX9_wordHere 22 = .ok (.invokevirtual 122, 3) := by decide +kernel
theorem dX9_wordHere_25 : decode cX9_wordHere 25 = .ok (.bipush 116, 2) := by decide +kernel
theorem dX9_wordHere_27 : decode cX9_wordHere 27 = .ok (.if_icmp .ne 7, 3) := by decide +kernel
theorem dX9_wordHere_30 : decode cX9_wordHere 30 = .ok (.iconst 4, 1) := by decide +kernel
theorem dX9_wordHere_31 : decode cX9_wordHere 31 = .ok (.goto 4, 3) := by decide +kernel
theorem dX9_wordHere_34 : decode cX9_wordHere 34 = .ok (.iconst (-1), 1) := by decide +kernel
theorem dX9_wordHere_35 : decode cX9_wordHere 35 = .ok (.ireturn, 1) := by decide +kernel
theorem dX9_wordHere_36 : decode cX9_wordHere 36 = .ok (.iload_n 1, 1) := by decide +kernel
theorem dX9_wordHere_37 : decode cX9_wordHere 37 = .ok (.iconst 3, 1) := by decide +kernel
theorem dX9_wordHere_38 : decode cX9_wordHere 38 = .ok (.if_icmp .ne 39, 3) := by decide +kernel
theorem dX9_wordHere_41 : decode cX9_wordHere 41 = .ok (.aload_n 0, 1) := by decide +kernel
theorem dX9_wordHere_42 : decode cX9_wordHere 42 = .ok (.iconst 0, 1) := by decide +kernel
theorem dX9_wordHere_43 : decode cX9_wordHere 43 = .ok (.invokevirtual 122, 3) := by decide +kernel
theorem dX9_wordHere_46 : decode cX9_wordHere 46 = .ok (.bipush 111, 2) := by decide +kernel
theorem dX9_wordHere_48 : decode cX9_wordHere 48 = .ok (.if_icmp .ne 27, 3) := by decide +kernel
theorem dX9_wordHere_51 : decode cX9_wordHere 51 = .ok (.aload_n 0, 1) := by decide +kernel
theorem dX9_wordHere_52 : decode cX9_wordHere 52 = .ok (.iconst 1, 1) := by decide +kernel
theorem dX9_wordHere_53 : decode cX9_wordHere 53 = .ok (.invokevirtual 122, 3) := by decide +kernel
theorem dX9_wordHere_56 : decode cX9_wordHere 56 = .ok (.bipush 110, 2) := by decide +kernel
theorem dX9_wordHere_58 : decode cX9_wordHere 58 = .ok (.if_icmp .ne 17, 3) := by decide +kernel
theorem dX9_wordHere_61 : decode cX9_wordHere 61 = .ok (.aload_n 0, 1) := by decide +kernel
theorem dX9_wordHere_62 : decode cX9_wordHere 62 = .ok (.iconst 2, 1) := by decide +kernel
theorem dX9_wordHere_63 : decode cX9_wordHere 63 = .ok (.invokevirtual 122, 3) := by decide +kernel
theorem dX9_wordHere_66 : decode cX9_wordHere 66 = .ok (.bipush 101, 2) := by decide +kernel
theorem dX9_wordHere_68 : decode cX9_wordHere 68 = .ok (.if_icmp .ne 7, 3) := by decide +kernel
theorem dX9_wordHere_71 : decode cX9_wordHere 71 = .ok (.iconst 1, 1) := by decide +kernel
theorem dX9_wordHere_72 : decode cX9_wordHere 72 = .ok (.goto 4, 3) := by decide +kernel
theorem dX9_wordHere_75 : decode cX9_wordHere 75 = .ok (.iconst (-1), 1) := by decide +kernel
theorem dX9_wordHere_76 : decode cX9_wordHere 76 = .ok (.ireturn, 1) := by decide +kernel
theorem dX9_wordHere_77 : decode cX9_wordHere 77 = .ok (.iload_n 1, 1) := by decide +kernel
theorem dX9_wordHere_78 : decode cX9_wordHere 78 = .ok (.iconst 5, 1) := by decide +kernel
theorem dX9_wordHere_79 : decode cX9_wordHere 79 = .ok (.if_icmp .ne 111, 3) := by decide +kernel
theorem dX9_wordHere_82 : decode cX9_wordHere 82 = .ok (.aload_n 0, 1) := by decide +kernel
theorem dX9_wordHere_83 : decode cX9_wordHere 83 = .ok (.iconst 0, 1) := by decide +kernel
theorem dX9_wordHere_84 : decode cX9_wordHere 84 = .ok (.invokevirtual 122, 3) := by decide +kernel
theorem dX9_wordHere_87 : decode cX9_wordHere 87 = .ok (.bipush 104, 2) := by decide +kernel
theorem dX9_wordHere_89 : decode cX9_wordHere 89 = .ok (.if_icmp .ne 45, 3) := by decide +kernel
theorem dX9_wordHere_92 : decode cX9_wordHere 92 = .ok (.aload_n 0, 1) := by decide +kernel
theorem dX9_wordHere_93 : decode cX9_wordHere 93 = .ok (.iconst 1, 1) := by decide +kernel
theorem dX9_wordHere_94 : decode cX9_wordHere 94 = .ok (.invokevirtual 122, 3) := by decide +kernel
theorem dX9_wordHere_97 : decode cX9_wordHere 97 = .ok (.bipush 111, 2) := by decide +kernel
theorem dX9_wordHere_99 : decode cX9_wordHere 99 = .ok (.if_icmp .ne 35, 3) := by decide +kernel
theorem dX9_wordHere_102 : decode cX9_wordHere 102 = .ok (.aload_n 0, 1) := by decide +kernel
theorem dX9_wordHere_103 : decode cX9_wordHere 103 = .ok (.iconst 2, 1) := by decide +kernel
theorem dX9_wordHere_104 : decode cX9_wordHere 104 = .ok (.invokevirtual 122, 3) := by decide +kernel
theorem dX9_wordHere_107 : decode cX9_wordHere 107 = .ok (.bipush 117, 2) := by decide +kernel
theorem dX9_wordHere_109 : decode cX9_wordHere 109 = .ok (.if_icmp .ne 25, 3) := by decide +kernel
theorem dX9_wordHere_112 : decode cX9_wordHere 112 = .ok (.aload_n 0, 1) := by decide +kernel
theorem dX9_wordHere_113 : decode cX9_wordHere 113 = .ok (.iconst 3, 1) := by decide +kernel
theorem dX9_wordHere_114 : decode cX9_wordHere 114 = .ok (.invokevirtual 122, 3) := by decide +kernel
theorem dX9_wordHere_117 : decode cX9_wordHere 117 = .ok (.bipush 115, 2) := by decide +kernel
theorem dX9_wordHere_119 : decode cX9_wordHere 119 = .ok (.if_icmp .ne 15, 3) := by decide +kernel
theorem dX9_wordHere_122 : decode cX9_wordHere 122 = .ok (.aload_n 0, 1) := by decide +kernel
theorem dX9_wordHere_123 : decode cX9_wordHere 123 = .ok (.iconst 4, 1) := by decide +kernel
theorem dX9_wordHere_124 : decode cX9_wordHere 124 = .ok (.invokevirtual 122, 3) := by decide +kernel
theorem dX9_wordHere_127 : decode cX9_wordHere 127 = .ok (.bipush 101, 2) := by decide +kernel
theorem dX9_wordHere_129 : decode cX9_wordHere 129 = .ok (.if_icmp .ne 5, 3) := by decide +kernel
theorem dX9_wordHere_132 : decode cX9_wordHere 132 = .ok (.iconst 0, 1) := by decide +kernel
theorem dX9_wordHere_133 : decode cX9_wordHere 133 = .ok (.ireturn, 1) := by decide +kernel
theorem dX9_wordHere_134 : decode cX9_wordHere 134 = .ok (.aload_n 0, 1) := by decide +kernel
theorem dX9_wordHere_135 : decode cX9_wordHere 135 = .ok (.iconst 0, 1) := by decide +kernel
theorem dX9_wordHere_136 : decode cX9_wordHere 136 = .ok (.invokevirtual 122, 3) := by decide +kernel
theorem dX9_wordHere_139 : decode cX9_wordHere 139 = .ok (.bipush 107, 2) := by decide +kernel
theorem dX9_wordHere_141 : decode cX9_wordHere 141 = .ok (.if_icmp .ne 47, 3) := by decide +kernel
theorem dX9_wordHere_144 : decode cX9_wordHere 144 = .ok (.aload_n 0, 1) := by decide +kernel
theorem dX9_wordHere_145 : decode cX9_wordHere 145 = .ok (.iconst 1, 1) := by decide +kernel
theorem dX9_wordHere_146 : decode cX9_wordHere 146 = .ok (.invokevirtual 122, 3) := by decide +kernel
theorem dX9_wordHere_149 : decode cX9_wordHere 149 = .ok (.bipush 110, 2) := by decide +kernel
theorem dX9_wordHere_151 : decode cX9_wordHere 151 = .ok (.if_icmp .ne 37, 3) := by decide +kernel
theorem dX9_wordHere_154 : decode cX9_wordHere 154 = .ok (.aload_n 0, 1) := by decide +kernel
theorem dX9_wordHere_155 : decode cX9_wordHere 155 = .ok (.iconst 2, 1) := by decide +kernel
theorem dX9_wordHere_156 : decode cX9_wordHere 156 = .ok (.invokevirtual 122, 3) := by decide +kernel
theorem dX9_wordHere_159 : decode cX9_wordHere 159 = .ok (.bipush 111, 2) := by decide +kernel
theorem dX9_wordHere_161 : decode cX9_wordHere 161 = .ok (.if_icmp .ne 27, 3) := by decide +kernel
theorem dX9_wordHere_164 : decode cX9_wordHere 164 = .ok (.aload_n 0, 1) := by decide +kernel
theorem dX9_wordHere_165 : decode cX9_wordHere 165 = .ok (.iconst 3, 1) := by decide +kernel
theorem dX9_wordHere_166 : decode cX9_wordHere 166 = .ok (.invokevirtual 122, 3) := by decide +kernel
theorem dX9_wordHere_169 : decode cX9_wordHere 169 = .ok (.bipush 119, 2) := by decide +kernel
theorem dX9_wordHere_171 : decode cX9_wordHere 171 = .ok (.if_icmp .ne 17, 3) := by decide +kernel
theorem dX9_wordHere_174 : decode cX9_wordHere 174 = .ok (.aload_n 0, 1) := by decide +kernel
theorem dX9_wordHere_175 : decode cX9_wordHere 175 = .ok (.iconst 4, 1) := by decide +kernel
theorem dX9_wordHere_176 : decode cX9_wordHere 176 = .ok (.invokevirtual 122, 3) := by decide +kernel
theorem dX9_wordHere_179 : decode cX9_wordHere 179 = .ok (.bipush 115, 2) := by decide +kernel
theorem dX9_wordHere_181 : decode cX9_wordHere 181 = .ok (.if_icmp .ne 7, 3) := by decide +kernel
theorem dX9_wordHere_184 : decode cX9_wordHere 184 = .ok (.iconst 2, 1) := by decide +kernel
theorem dX9_wordHere_185 : decode cX9_wordHere 185 = .ok (.goto 4, 3) := by decide +kernel
theorem dX9_wordHere_188 : decode cX9_wordHere 188 = .ok (.iconst (-1), 1) := by decide +kernel
theorem dX9_wordHere_189 : decode cX9_wordHere 189 = .ok (.ireturn, 1) := by decide +kernel
theorem dX9_wordHere_190 : decode cX9_wordHere 190 = .ok (.iload_n 1, 1) := by decide +kernel
theorem dX9_wordHere_191 : decode cX9_wordHere 191 = .ok (.bipush 6, 2) := by decide +kernel
theorem dX9_wordHere_193 : decode cX9_wordHere 193 = .ok (.if_icmp .ne 69, 3) := by decide +kernel
theorem dX9_wordHere_196 : decode cX9_wordHere 196 = .ok (.aload_n 0, 1) := by decide +kernel
theorem dX9_wordHere_197 : decode cX9_wordHere 197 = .ok (.iconst 0, 1) := by decide +kernel
theorem dX9_wordHere_198 : decode cX9_wordHere 198 = .ok (.invokevirtual 122, 3) := by decide +kernel
theorem dX9_wordHere_201 : decode cX9_wordHere 201 = .ok (.bipush 99, 2) := by decide +kernel
theorem dX9_wordHere_203 : decode cX9_wordHere 203 = .ok (.if_icmp .ne 57, 3) := by decide +kernel
theorem dX9_wordHere_206 : decode cX9_wordHere 206 = .ok (.aload_n 0, 1) := by decide +kernel
theorem dX9_wordHere_207 : decode cX9_wordHere 207 = .ok (.iconst 1, 1) := by decide +kernel
theorem dX9_wordHere_208 : decode cX9_wordHere 208 = .ok (.invokevirtual 122, 3) := by decide +kernel
theorem dX9_wordHere_211 : decode cX9_wordHere 211 = .ok (.bipush 97, 2) := by decide +kernel
theorem dX9_wordHere_213 : decode cX9_wordHere 213 = .ok (.if_icmp .ne 47, 3) := by decide +kernel
theorem dX9_wordHere_216 : decode cX9_wordHere 216 = .ok (.aload_n 0, 1) := by decide +kernel
theorem dX9_wordHere_217 : decode cX9_wordHere 217 = .ok (.iconst 2, 1) := by decide +kernel
theorem dX9_wordHere_218 : decode cX9_wordHere 218 = .ok (.invokevirtual 122, 3) := by decide +kernel
theorem dX9_wordHere_221 : decode cX9_wordHere 221 = .ok (.bipush 114, 2) := by decide +kernel
theorem dX9_wordHere_223 : decode cX9_wordHere 223 = .ok (.if_icmp .ne 37, 3) := by decide +kernel
theorem dX9_wordHere_226 : decode cX9_wordHere 226 = .ok (.aload_n 0, 1) := by decide +kernel
theorem dX9_wordHere_227 : decode cX9_wordHere 227 = .ok (.iconst 3, 1) := by decide +kernel
theorem dX9_wordHere_228 : decode cX9_wordHere 228 = .ok (.invokevirtual 122, 3) := by decide +kernel
theorem dX9_wordHere_231 : decode cX9_wordHere 231 = .ok (.bipush 112, 2) := by decide +kernel
theorem dX9_wordHere_233 : decode cX9_wordHere 233 = .ok (.if_icmp .ne 27, 3) := by decide +kernel
theorem dX9_wordHere_236 : decode cX9_wordHere 236 = .ok (.aload_n 0, 1) := by decide +kernel
theorem dX9_wordHere_237 : decode cX9_wordHere 237 = .ok (.iconst 4, 1) := by decide +kernel
theorem dX9_wordHere_238 : decode cX9_wordHere 238 = .ok (.invokevirtual 122, 3) := by decide +kernel
theorem dX9_wordHere_241 : decode cX9_wordHere 241 = .ok (.bipush 101, 2) := by decide +kernel
theorem dX9_wordHere_243 : decode cX9_wordHere 243 = .ok (.if_icmp .ne 17, 3) := by decide +kernel
theorem dX9_wordHere_246 : decode cX9_wordHere 246 = .ok (.aload_n 0, 1) := by decide +kernel
theorem dX9_wordHere_247 : decode cX9_wordHere 247 = .ok (.iconst 5, 1) := by decide +kernel
theorem dX9_wordHere_248 : decode cX9_wordHere 248 = .ok (.invokevirtual 122, 3) := by decide +kernel
theorem dX9_wordHere_251 : decode cX9_wordHere 251 = .ok (.bipush 116, 2) := by decide +kernel
theorem dX9_wordHere_253 : decode cX9_wordHere 253 = .ok (.if_icmp .ne 7, 3) := by decide +kernel
theorem dX9_wordHere_256 : decode cX9_wordHere 256 = .ok (.iconst 3, 1) := by decide +kernel
theorem dX9_wordHere_257 : decode cX9_wordHere 257 = .ok (.goto 4, 3) := by decide +kernel
theorem dX9_wordHere_260 : decode cX9_wordHere 260 = .ok (.iconst (-1), 1) := by decide +kernel
theorem dX9_wordHere_261 : decode cX9_wordHere 261 = .ok (.ireturn, 1) := by decide +kernel
theorem dX9_wordHere_262 : decode cX9_wordHere 262 = .ok (.iload_n 1, 1) := by decide +kernel
theorem dX9_wordHere_263 : decode cX9_wordHere 263 = .ok (.bipush 7, 2) := by decide +kernel
theorem dX9_wordHere_265 : decode cX9_wordHere 265 = .ok (.if_icmp .eq 5, 3) := by decide +kernel
theorem dX9_wordHere_268 : decode cX9_wordHere 268 = .ok (.iconst (-1), 1) := by decide +kernel
theorem dX9_wordHere_269 : decode cX9_wordHere 269 = .ok (.ireturn, 1) := by decide +kernel
theorem dX9_wordHere_270 : decode cX9_wordHere 270 = .ok (.aload_n 0, 1) := by decide +kernel
theorem dX9_wordHere_271 : decode cX9_wordHere 271 = .ok (.iconst 0, 1) := by decide +kernel
theorem dX9_wordHere_272 : decode cX9_wordHere 272 = .ok (.invokevirtual 122, 3) := by decide +kernel
theorem dX9_wordHere_275 : decode cX9_wordHere 275 = .ok (.bipush 109, 2) := by decide +kernel
theorem dX9_wordHere_277 : decode cX9_wordHere 277 = .ok (.if_icmp .ne 37, 3) := by decide +kernel
theorem dX9_wordHere_280 : decode cX9_wordHere 280 = .ok (.aload_n 0, 1) := by decide +kernel
theorem dX9_wordHere_281 : decode cX9_wordHere 281 = .ok (.iconst 1, 1) := by decide +kernel
theorem dX9_wordHere_282 : decode cX9_wordHere 282 = .ok (.invokevirtual 122, 3) := by decide +kernel
theorem dX9_wordHere_285 : decode cX9_wordHere 285 = .ok (.bipush 105, 2) := by decide +kernel
theorem dX9_wordHere_287 : decode cX9_wordHere 287 = .ok (.if_icmp .ne 27, 3) := by decide +kernel
theorem dX9_wordHere_290 : decode cX9_wordHere 290 = .ok (.aload_n 0, 1) := by decide +kernel
theorem dX9_wordHere_291 : decode cX9_wordHere 291 = .ok (.iconst 2, 1) := by decide +kernel
theorem dX9_wordHere_292 : decode cX9_wordHere 292 = .ok (.invokevirtual 122, 3) := by decide +kernel
theorem dX9_wordHere_295 : decode cX9_wordHere 295 = .ok (.bipush 110, 2) := by decide +kernel
theorem dX9_wordHere_297 : decode cX9_wordHere 297 = .ok (.if_icmp .ne 17, 3) := by decide +kernel
theorem dX9_wordHere_300 : decode cX9_wordHere 300 = .ok (.aload_n 0, 1) := by decide +kernel
theorem dX9_wordHere_301 : decode cX9_wordHere 301 = .ok (.iconst 3, 1) := by decide +kernel
theorem dX9_wordHere_302 : decode cX9_wordHere 302 = .ok (.invokevirtual 122, 3) := by decide +kernel
theorem dX9_wordHere_305 : decode cX9_wordHere 305 = .ok (.bipush 117, 2) := by decide +kernel
theorem dX9_wordHere_307 : decode cX9_wordHere 307 = .ok (.if_icmp .ne 7, 3) := by decide +kernel
theorem dX9_wordHere_310 : decode cX9_wordHere 310 = .ok (.iconst 1, 1) := by decide +kernel
theorem dX9_wordHere_311 : decode cX9_wordHere 311 = .ok (.goto 4, 3) := by decide +kernel
theorem dX9_wordHere_314 : decode cX9_wordHere 314 = .ok (.iconst 0, 1) := by decide +kernel
theorem dX9_wordHere_315 : decode cX9_wordHere 315 = .ok (.istore_n 2, 1) := by decide +kernel
theorem dX9_wordHere_316 : decode cX9_wordHere 316 = .ok (.iload_n 2, 1) := by decide +kernel
theorem dX9_wordHere_317 : decode cX9_wordHere 317 = .ok (.ifCond .eq 38, 3) := by decide +kernel
theorem dX9_wordHere_320 : decode cX9_wordHere 320 = .ok (.aload_n 0, 1) := by decide +kernel
theorem dX9_wordHere_321 : decode cX9_wordHere 321 = .ok (.iconst 4, 1) := by decide +kernel
theorem dX9_wordHere_322 : decode cX9_wordHere 322 = .ok (.invokevirtual 122, 3) := by decide +kernel
theorem dX9_wordHere_325 : decode cX9_wordHere 325 = .ok (.bipush 116, 2) := by decide +kernel
theorem dX9_wordHere_327 : decode cX9_wordHere 327 = .ok (.if_icmp .ne 28, 3) := by decide +kernel
theorem dX9_wordHere_330 : decode cX9_wordHere 330 = .ok (.aload_n 0, 1) := by decide +kernel
theorem dX9_wordHere_331 : decode cX9_wordHere 331 = .ok (.iconst 5, 1) := by decide +kernel
theorem dX9_wordHere_332 : decode cX9_wordHere 332 = .ok (.invokevirtual 122, 3) := by decide +kernel
theorem dX9_wordHere_335 : decode cX9_wordHere 335 = .ok (.bipush 101, 2) := by decide +kernel
theorem dX9_wordHere_337 : decode cX9_wordHere 337 = .ok (.if_icmp .ne 18, 3) := by decide +kernel
theorem dX9_wordHere_340 : decode cX9_wordHere 340 = .ok (.aload_n 0, 1) := by decide +kernel
theorem dX9_wordHere_341 : decode cX9_wordHere 341 = .ok (.bipush 6, 2) := by decide +kernel
theorem dX9_wordHere_343 : decode cX9_wordHere 343 = .ok (.invokevirtual 122, 3) := by decide +kernel
theorem dX9_wordHere_346 : decode cX9_wordHere 346 = .ok (.bipush 115, 2) := by decide +kernel
theorem dX9_wordHere_348 : decode cX9_wordHere 348 = .ok (.if_icmp .ne 7, 3) := by decide +kernel
theorem dX9_wordHere_351 : decode cX9_wordHere 351 = .ok (.iconst 5, 1) := by decide +kernel
theorem dX9_wordHere_352 : decode cX9_wordHere 352 = .ok (.goto 4, 3) := by decide +kernel
theorem dX9_wordHere_355 : decode cX9_wordHere 355 = .ok (.iconst (-1), 1) := by decide +kernel
theorem dX9_wordHere_356 : decode cX9_wordHere 356 = .ok (.ireturn, 1) := by decide +kernel
theorem dX9_number_0 : decode cX9_number 0 = .ok (.aload_n 0, 1) := by decide +kernel
theorem dX9_number_1 : decode cX9_number 1 = .ok (.invokevirtual 126, 3) := by decide +kernel
theorem dX9_number_4 : decode cX9_number 4 = .ok (.iconst 0, 1) := by decide +kernel
theorem dX9_number_5 : decode cX9_number 5 = .ok (.istore_n 3, 1) := by decide +kernel
theorem dX9_number_6 : decode cX9_number 6 = .ok (.iconst 0, 1) := by decide +kernel
theorem dX9_number_7 : decode cX9_number 7 = .ok (.istore 4, 2) := by decide +kernel
theorem dX9_number_9 : decode cX9_number 9 = .ok (.aload_n 0, 1) := by decide +kernel
theorem dX9_number_10 : decode cX9_number 10 = .ok (.getfield 109, 3) := by decide +kernel
theorem dX9_number_13 : decode cX9_number 13 = .ok (.iload_n 3, 1) := by decide +kernel
theorem dX9_number_14 : decode cX9_number 14 = .ok (.iadd, 1) := by decide +kernel
theorem dX9_number_15 : decode cX9_number 15 = .ok (.aload_n 0, 1) := by decide +kernel
theorem dX9_number_16 : decode cX9_number 16 = .ok (.getfield 106, 3) := by decide +kernel
theorem dX9_number_19 : decode cX9_number 19 = .ok (.if_icmp .ge 58, 3) := by decide +kernel
theorem dX9_number_22 : decode cX9_number 22 = .ok (.aload_n 0, 1) := by decide +kernel
theorem dX9_number_23 : decode cX9_number 23 = .ok (.getfield 37, 3) := by decide +kernel
theorem dX9_number_26 : decode cX9_number 26 = .ok (.aload_n 0, 1) := by decide +kernel
theorem dX9_number_27 : decode cX9_number 27 = .ok (.getfield 109, 3) := by decide +kernel
theorem dX9_number_30 : decode cX9_number 30 = .ok (.iload_n 3, 1) := by decide +kernel
theorem dX9_number_31 : decode cX9_number 31 = .ok (.iadd, 1) := by decide +kernel
theorem dX9_number_32 : decode cX9_number 32 = .ok (.iaload, 1) := by decide +kernel
theorem dX9_number_33 : decode cX9_number 33 = .ok (.invokestatic 129, 3) := by decide +kernel
theorem dX9_number_36 : decode cX9_number 36 = .ok (.ifCond .eq 41, 3) := by decide +kernel
theorem dX9_number_39 : decode cX9_number 39 = .ok (.iload_n 3, 1) := by decide +kernel
theorem dX9_number_40 : decode cX9_number 40 = .ok (.iconst 2, 1) := by decide +kernel
theorem dX9_number_41 : decode cX9_number 41 = .ok (.if_icmp .ge 26, 3) := by decide +kernel
theorem dX9_number_44 : decode cX9_number 44 = .ok (.bipush 10, 2) := by decide +kernel
theorem dX9_number_46 : decode cX9_number 46 = .ok (.iload 4, 2) := by decide +kernel
theorem dX9_number_48 : decode cX9_number 48 = .ok (.imul, 1) := by decide +kernel
theorem dX9_number_49 : decode cX9_number 49 = .ok (.aload_n 0, 1) := by decide +kernel
theorem dX9_number_50 : decode cX9_number 50 = .ok (.getfield 37, 3) := by decide +kernel
theorem dX9_number_53 : decode cX9_number 53 = .ok (.aload_n 0, 1) := by decide +kernel
theorem dX9_number_54 : decode cX9_number 54 = .ok (.getfield 109, 3) := by decide +kernel
theorem dX9_number_57 : decode cX9_number 57 = .ok (.iload_n 3, 1) := by decide +kernel
theorem dX9_number_58 : decode cX9_number 58 = .ok (.iadd, 1) := by decide +kernel
theorem dX9_number_59 : decode cX9_number 59 = .ok (.iaload, 1) := by decide +kernel
theorem dX9_number_60 : decode cX9_number 60 = .ok (.iadd, 1) := by decide +kernel
theorem dX9_number_61 : decode cX9_number 61 = .ok (.bipush 48, 2) := by decide +kernel
theorem dX9_number_63 : decode cX9_number 63 = .ok (.isub, 1) := by decide +kernel
theorem dX9_number_64 : decode cX9_number 64 = .ok (.goto 5, 3) := by decide +kernel
theorem dX9_number_67 : decode cX9_number 67 = .ok (.iload 4, 2) := by decide +kernel
theorem dX9_number_69 : decode cX9_number 69 = .ok (.istore 4, 2) := by decide +kernel
theorem dX9_number_71 : decode cX9_number 71 = .ok (.iinc 3 1, 3) := by decide +kernel
theorem dX9_number_74 : decode cX9_number 74 = .ok (.goto (-65), 3) := by decide +kernel
theorem dX9_number_77 : decode cX9_number 77 = .ok (.iload_n 3, 1) := by decide +kernel
theorem dX9_number_78 : decode cX9_number 78 = .ok (.iconst 1, 1) := by decide +kernel
theorem dX9_number_79 : decode cX9_number 79 = .ok (.iconst 2, 1) := by decide +kernel
theorem dX9_number_80 : decode cX9_number 80 = .ok (.invokestatic 91, 3) := by decide +kernel
theorem dX9_number_83 : decode cX9_number 83 = .ok (.ifCond .eq 13, 3) := by decide +kernel
theorem dX9_number_86 : decode cX9_number 86 = .ok (.iload 4, 2) := by decide +kernel
theorem dX9_number_88 : decode cX9_number 88 = .ok (.iload_n 1, 1) := by decide +kernel
theorem dX9_number_89 : decode cX9_number 89 = .ok (.iload_n 2, 1) := by decide +kernel
theorem dX9_number_90 : decode cX9_number 90 = .ok (.invokestatic 91, 3) := by decide +kernel
theorem dX9_number_93 : decode cX9_number 93 = .ok (.ifCond .ne 5, 3) := by decide +kernel
theorem dX9_number_96 : decode cX9_number 96 = .ok (.iconst 0, 1) := by decide +kernel
theorem dX9_number_97 : decode cX9_number 97 = .ok (.ireturn, 1) := by decide +kernel
theorem dX9_number_98 : decode cX9_number 98 = .ok (.aload_n 0, 1) := by decide +kernel
theorem dX9_number_99 : decode cX9_number 99 = .ok (.iload 4, 2) := by decide +kernel
theorem dX9_number_101 : decode cX9_number 101 = .ok (.putfield 132, 3) := by decide +kernel
theorem dX9_number_104 : decode cX9_number 104 = .ok (.aload_n 0, 1) := by decide +kernel
theorem dX9_number_105 : decode cX9_number 105 = .ok (.dup, 1) := by decide +kernel
theorem dX9_number_106 : decode cX9_number 106 = .ok (.getfield 109, 3) := by decide +kernel
theorem dX9_number_109 : decode cX9_number 109 = .ok (.iload_n 3, 1) := by decide +kernel
theorem dX9_number_110 : decode cX9_number 110 = .ok (.iadd, 1) := by decide +kernel
theorem dX9_number_111 : decode cX9_number 111 = .ok (.putfield 109, 3) := by decide +kernel
theorem dX9_number_114 : decode cX9_number 114 = .ok (.iconst 1, 1) := by decide +kernel
theorem dX9_number_115 : decode cX9_number 115 = .ok (.ireturn, 1) := by decide +kernel
theorem dX9_ends_0 : decode cX9_ends 0 = .ok (.aload_n 0, 1) := by decide +kernel
theorem dX9_ends_1 : decode cX9_ends 1 = .ok (.invokevirtual 126, 3) := by decide +kernel
theorem dX9_ends_4 : decode cX9_ends 4 = .ok (.aload_n 0, 1) := by decide +kernel
theorem dX9_ends_5 : decode cX9_ends 5 = .ok (.invokevirtual 112, 3) := by decide +kernel
theorem dX9_ends_8 : decode cX9_ends 8 = .ok (.bipush 59, 2) := by decide +kernel
theorem dX9_ends_10 : decode cX9_ends 10 = .ok (.if_icmp .eq 5, 3) := by decide +kernel
theorem dX9_ends_13 : decode cX9_ends 13 = .ok (.iconst 0, 1) := by decide +kernel
theorem dX9_ends_14 : decode cX9_ends 14 = .ok (.ireturn, 1) := by decide +kernel
theorem dX9_ends_15 : decode cX9_ends 15 = .ok (.aload_n 0, 1) := by decide +kernel
theorem dX9_ends_16 : decode cX9_ends 16 = .ok (.dup, 1) := by decide +kernel
theorem dX9_ends_17 : decode cX9_ends 17 = .ok (.getfield 109, 3) := by decide +kernel
theorem dX9_ends_20 : decode cX9_ends 20 = .ok (.iconst 1, 1) := by decide +kernel
theorem dX9_ends_21 : decode cX9_ends 21 = .ok (.iadd, 1) := by decide +kernel
theorem dX9_ends_22 : decode cX9_ends 22 = .ok (.putfield 109, 3) := by decide +kernel
theorem dX9_ends_25 : decode cX9_ends 25 = .ok (.iconst 1, 1) := by decide +kernel
theorem dX9_ends_26 : decode cX9_ends 26 = .ok (.ireturn, 1) := by decide +kernel
theorem dX9_readsOne_0 : decode cX9_readsOne 0 = .ok (.aload_n 0, 1) := by decide +kernel
theorem dX9_readsOne_1 : decode cX9_readsOne 1 = .ok (.iconst 0, 1) := by decide +kernel
theorem dX9_readsOne_2 : decode cX9_readsOne 2 = .ok (.iconst 5, 1) := by decide +kernel
theorem dX9_readsOne_3 : decode cX9_readsOne 3 = .ok (.invokevirtual 135, 3) := by decide +kernel
theorem dX9_readsOne_6 : decode cX9_readsOne 6 = .ok (.ifCond .ne 5, 3) := by decide +kernel
theorem dX9_readsOne_9 : decode cX9_readsOne 9 = .ok (.iconst 0, 1) := by decide +kernel
theorem dX9_readsOne_10 : decode cX9_readsOne 10 = .ok (.ireturn, 1) := by decide +kernel
theorem dX9_readsOne_11 : decode cX9_readsOne 11 = .ok (.aload_n 0, 1) := by decide +kernel
theorem dX9_readsOne_12 : decode cX9_readsOne 12 = .ok (.getfield 132, 3) := by decide +kernel
theorem dX9_readsOne_15 : decode cX9_readsOne 15 = .ok (.istore_n 1, 1) := by decide +kernel
theorem dX9_readsOne_16 : decode cX9_readsOne 16 = .ok (.aload_n 0, 1) := by decide +kernel
theorem dX9_readsOne_17 : decode cX9_readsOne 17 = .ok (.iconst 1, 1) := by decide +kernel
theorem dX9_readsOne_18 : decode cX9_readsOne 18 = .ok (.bipush 12, 2) := by decide +kernel
theorem dX9_readsOne_20 : decode cX9_readsOne 20 = .ok (.invokevirtual 135, 3) := by decide +kernel
theorem dX9_readsOne_23 : decode cX9_readsOne 23 = .ok (.ifCond .ne 5, 3) := by decide +kernel
theorem dX9_readsOne_26 : decode cX9_readsOne 26 = .ok (.iconst 0, 1) := by decide +kernel
theorem dX9_readsOne_27 : decode cX9_readsOne 27 = .ok (.ireturn, 1) := by decide +kernel
theorem dX9_readsOne_28 : decode cX9_readsOne 28 = .ok (.aload_n 0, 1) := by decide +kernel
theorem dX9_readsOne_29 : decode cX9_readsOne 29 = .ok (.getfield 132, 3) := by decide +kernel
theorem dX9_readsOne_32 : decode cX9_readsOne 32 = .ok (.istore_n 2, 1) := by decide +kernel
theorem dX9_readsOne_33 : decode cX9_readsOne 33 = .ok (.aload_n 0, 1) := by decide +kernel
theorem dX9_readsOne_34 : decode cX9_readsOne 34 = .ok (.invokevirtual 139, 3) := by decide +kernel
theorem dX9_readsOne_37 : decode cX9_readsOne 37 = .ok (.ifCond .ne 5, 3) := by decide +kernel
theorem dX9_readsOne_40 : decode cX9_readsOne 40 = .ok (.iconst 0, 1) := by decide +kernel
theorem dX9_readsOne_41 : decode cX9_readsOne 41 = .ok (.ireturn, 1) := by decide +kernel
theorem dX9_readsOne_42 : decode cX9_readsOne 42 = .ok (.aload_n 0, 1) := by decide +kernel
theorem dX9_readsOne_43 : decode cX9_readsOne 43 = .ok (.iload_n 1, 1) := by decide +kernel
theorem dX9_readsOne_44 : decode cX9_readsOne 44 = .ok (.iload_n 2, 1) := by decide +kernel
theorem dX9_readsOne_45 : decode cX9_readsOne 45 = .ok (.invokevirtual 102, 3) := by decide +kernel
theorem dX9_readsOne_48 : decode cX9_readsOne 48 = .ok (.pop, 1) := by decide +kernel
theorem dX9_readsOne_49 : decode cX9_readsOne 49 = .ok (.iconst 1, 1) := by decide +kernel
theorem dX9_readsOne_50 : decode cX9_readsOne 50 = .ok (.ireturn, 1) := by decide +kernel
theorem dX9_readsWhere_0 : decode cX9_readsWhere 0 = .ok (.aload_n 0, 1) := by decide +kernel
theorem dX9_readsWhere_1 : decode cX9_readsWhere 1 = .ok (.iconst 0, 1) := by decide +kernel
theorem dX9_readsWhere_2 : decode cX9_readsWhere 2 = .ok (.aload_n 0, 1) := by decide +kernel
theorem dX9_readsWhere_3 : decode cX9_readsWhere 3 = .ok (.getfield 69, 3) := by decide +kernel
theorem dX9_readsWhere_6 : decode cX9_readsWhere 6 = .ok (.iconst 1, 1) := by decide +kernel
theorem dX9_readsWhere_7 : decode cX9_readsWhere 7 = .ok (.isub, 1) := by decide +kernel
theorem dX9_readsWhere_8 : decode cX9_readsWhere 8 = .ok (.invokevirtual 135, 3) := by decide +kernel
theorem dX9_readsWhere_11 : decode cX9_readsWhere 11 = .ok (.ifCond .ne 5, 3) := by decide +kernel
theorem dX9_readsWhere_14 : decode cX9_readsWhere 14 = .ok (.iconst 0, 1) := by decide +kernel
theorem dX9_readsWhere_15 : decode cX9_readsWhere 15 = .ok (.ireturn, 1) := by decide +kernel
theorem dX9_readsWhere_16 : decode cX9_readsWhere 16 = .ok (.aload_n 0, 1) := by decide +kernel
theorem dX9_readsWhere_17 : decode cX9_readsWhere 17 = .ok (.getfield 132, 3) := by decide +kernel
theorem dX9_readsWhere_20 : decode cX9_readsWhere 20 = .ok (.istore_n 2, 1) := by decide +kernel
theorem dX9_readsWhere_21 : decode cX9_readsWhere 21 = .ok (.aload_n 0, 1) := by decide +kernel
theorem dX9_readsWhere_22 : decode cX9_readsWhere 22 = .ok (.iconst 0, 1) := by decide +kernel
theorem dX9_readsWhere_23 : decode cX9_readsWhere 23 = .ok (.iload_n 1, 1) := by decide +kernel
theorem dX9_readsWhere_24 : decode cX9_readsWhere 24 = .ok (.ifCond .eq 8, 3) := by decide +kernel
theorem dX9_readsWhere_27 : decode cX9_readsWhere 27 = .ok (.bipush 7, 2) := by decide +kernel
theorem dX9_readsWhere_29 : decode cX9_readsWhere 29 = .ok (.goto 5, 3) := by decide +kernel
theorem dX9_readsWhere_32 : decode cX9_readsWhere 32 = .ok (.bipush 8, 2) := by decide +kernel
theorem dX9_readsWhere_34 : decode cX9_readsWhere 34 = .ok (.invokevirtual 135, 3) := by decide +kernel
theorem dX9_readsWhere_37 : decode cX9_readsWhere 37 = .ok (.ifCond .ne 5, 3) := by decide +kernel
theorem dX9_readsWhere_40 : decode cX9_readsWhere 40 = .ok (.iconst 0, 1) := by decide +kernel
theorem dX9_readsWhere_41 : decode cX9_readsWhere 41 = .ok (.ireturn, 1) := by decide +kernel
theorem dX9_readsWhere_42 : decode cX9_readsWhere 42 = .ok (.aload_n 0, 1) := by decide +kernel
theorem dX9_readsWhere_43 : decode cX9_readsWhere 43 = .ok (.getfield 22, 3) := by decide +kernel
theorem dX9_readsWhere_46 : decode cX9_readsWhere 46 = .ok (.iload_n 2, 1) := by decide +kernel
theorem dX9_readsWhere_47 : decode cX9_readsWhere 47 = .ok (.dup2, 1) := by decide +kernel
theorem dX9_readsWhere_48 : decode cX9_readsWhere 48 = .ok (.iaload, 1) := by decide +kernel
theorem dX9_readsWhere_49 : decode cX9_readsWhere 49 = .ok (.iload_n 1, 1) := by decide +kernel
theorem dX9_readsWhere_50 : decode cX9_readsWhere 50 = .ok (.ifCond .eq 12, 3) := by decide +kernel
theorem dX9_readsWhere_53 : decode cX9_readsWhere 53 = .ok (.iconst 1, 1) := by decide +kernel
theorem dX9_readsWhere_54 : decode cX9_readsWhere 54 = .ok (.aload_n 0, 1) := by decide +kernel
theorem dX9_readsWhere_55 : decode cX9_readsWhere 55 = .ok (.getfield 132, 3) := by decide +kernel
theorem dX9_readsWhere_58 : decode cX9_readsWhere 58 = .ok (.ishl, 1) := by decide +kernel
theorem dX9_readsWhere_59 : decode cX9_readsWhere 59 = .ok (.goto 4, 3) := by decide +kernel
theorem dX9_readsWhere_62 : decode cX9_readsWhere 62 = .ok (.iconst 0, 1) := by decide +kernel
theorem dX9_readsWhere_63 : decode cX9_readsWhere 63 = .ok (.ior, 1) := by decide +kernel
theorem dX9_readsWhere_64 : decode cX9_readsWhere 64 = .ok (.iastore, 1) := by decide +kernel
theorem dX9_readsWhere_65 : decode cX9_readsWhere 65 = .ok (.aload_n 0, 1) := by decide +kernel
theorem dX9_readsWhere_66 : decode cX9_readsWhere 66 = .ok (.getfield 19, 3) := by decide +kernel
theorem dX9_readsWhere_69 : decode cX9_readsWhere 69 = .ok (.iload_n 2, 1) := by decide +kernel
theorem dX9_readsWhere_70 : decode cX9_readsWhere 70 = .ok (.iload_n 1, 1) := by decide +kernel
theorem dX9_readsWhere_71 : decode cX9_readsWhere 71 = .ok (.ifCond .eq 12, 3) := by decide +kernel
theorem dX9_readsWhere_74 : decode cX9_readsWhere 74 = .ok (.aload_n 0, 1) := by decide +kernel
theorem dX9_readsWhere_75 : decode cX9_readsWhere 75 = .ok (.getfield 19, 3) := by decide +kernel
theorem dX9_readsWhere_78 : decode cX9_readsWhere 78 = .ok (.iload_n 2, 1) := by decide +kernel
theorem dX9_readsWhere_79 : decode cX9_readsWhere 79 = .ok (.iaload, 1) := by decide +kernel
theorem dX9_readsWhere_80 : decode cX9_readsWhere 80 = .ok (.goto 7, 3) := by decide +kernel
theorem dX9_readsWhere_83 : decode cX9_readsWhere 83 = .ok (.aload_n 0, 1) := by decide +kernel
theorem dX9_readsWhere_84 : decode cX9_readsWhere 84 = .ok (.getfield 132, 3) := by decide +kernel
theorem dX9_readsWhere_87 : decode cX9_readsWhere 87 = .ok (.iastore, 1) := by decide +kernel
theorem dX9_readsWhere_88 : decode cX9_readsWhere 88 = .ok (.aload_n 0, 1) := by decide +kernel
theorem dX9_readsWhere_89 : decode cX9_readsWhere 89 = .ok (.invokevirtual 139, 3) := by decide +kernel
theorem dX9_readsWhere_92 : decode cX9_readsWhere 92 = .ok (.ireturn, 1) := by decide +kernel
theorem dX9_readsCarpet_0 : decode cX9_readsCarpet 0 = .ok (.aload_n 0, 1) := by decide +kernel
theorem dX9_readsCarpet_1 : decode cX9_readsCarpet 1 = .ok (.iconst 0, 1) := by decide +kernel
theorem dX9_readsCarpet_2 : decode cX9_readsCarpet 2 = .ok (.bipush 6, 2) := by decide +kernel
theorem dX9_readsCarpet_4 : decode cX9_readsCarpet 4 = .ok (.invokevirtual 135, 3) := by decide +kernel
theorem dX9_readsCarpet_7 : decode cX9_readsCarpet 7 = .ok (.ifCond .ne 5, 3) := by decide +kernel
theorem dX9_readsCarpet_10 : decode cX9_readsCarpet 10 = .ok (.iconst 0, 1) := by decide +kernel
theorem dX9_readsCarpet_11 : decode cX9_readsCarpet 11 = .ok (.ireturn, 1) := by decide +kernel
theorem dX9_readsCarpet_12 : decode cX9_readsCarpet 12 = .ok (.aload_n 0, 1) := by decide +kernel
theorem dX9_readsCarpet_13 : decode cX9_readsCarpet 13 = .ok (.dup, 1) := by decide +kernel
theorem dX9_readsCarpet_14 : decode cX9_readsCarpet 14 = .ok (.getfield 76, 3) := by decide +kernel
theorem dX9_readsCarpet_17 : decode cX9_readsCarpet 17 = .ok (.iconst 1, 1) := by decide +kernel
theorem dX9_readsCarpet_18 : decode cX9_readsCarpet 18 = .ok (.aload_n 0, 1) := by decide +kernel
theorem dX9_readsCarpet_19 : decode cX9_readsCarpet 19 = .ok (.getfield 132, 3) := by decide +kernel
theorem dX9_readsCarpet_22 : decode cX9_readsCarpet 22 = .ok (.ishl, 1) := by decide +kernel
theorem dX9_readsCarpet_23 : decode cX9_readsCarpet 23 = .ok (.ior, 1) := by decide +kernel
theorem dX9_readsCarpet_24 : decode cX9_readsCarpet 24 = .ok (.putfield 76, 3) := by decide +kernel
theorem dX9_readsCarpet_27 : decode cX9_readsCarpet 27 = .ok (.aload_n 0, 1) := by decide +kernel
theorem dX9_readsCarpet_28 : decode cX9_readsCarpet 28 = .ok (.invokevirtual 139, 3) := by decide +kernel
theorem dX9_readsCarpet_31 : decode cX9_readsCarpet 31 = .ok (.ireturn, 1) := by decide +kernel
theorem dX9_readsMinutes_0 : decode cX9_readsMinutes 0 = .ok (.aload_n 0, 1) := by decide +kernel
theorem dX9_readsMinutes_1 : decode cX9_readsMinutes 1 = .ok (.iconst 1, 1) := by decide +kernel
theorem dX9_readsMinutes_2 : decode cX9_readsMinutes 2 = .ok (.bipush 99, 2) := by decide +kernel
theorem dX9_readsMinutes_4 : decode cX9_readsMinutes 4 = .ok (.invokevirtual 135, 3) := by decide +kernel
theorem dX9_readsMinutes_7 : decode cX9_readsMinutes 7 = .ok (.ifCond .ne 5, 3) := by decide +kernel
theorem dX9_readsMinutes_10 : decode cX9_readsMinutes 10 = .ok (.iconst 0, 1) := by decide +kernel
theorem dX9_readsMinutes_11 : decode cX9_readsMinutes 11 = .ok (.ireturn, 1) := by decide +kernel
theorem dX9_readsMinutes_12 : decode cX9_readsMinutes 12 = .ok (.aload_n 0, 1) := by decide +kernel
theorem dX9_readsMinutes_13 : decode cX9_readsMinutes 13 = .ok (.aload_n 0, 1) := by decide +kernel
theorem dX9_readsMinutes_14 : decode cX9_readsMinutes 14 = .ok (.getfield 132, 3) := by decide +kernel
theorem dX9_readsMinutes_17 : decode cX9_readsMinutes 17 = .ok (.invokevirtual 143, 3) := by decide +kernel
theorem dX9_readsMinutes_20 : decode cX9_readsMinutes 20 = .ok (.aload_n 0, 1) := by decide +kernel
theorem dX9_readsMinutes_21 : decode cX9_readsMinutes 21 = .ok (.invokevirtual 139, 3) := by decide +kernel
theorem dX9_readsMinutes_24 : decode cX9_readsMinutes 24 = .ok (.ireturn, 1) := by decide +kernel
theorem dX9_readsItem_0 : decode cX9_readsItem 0 = .ok (.aload_n 0, 1) := by decide +kernel
theorem dX9_readsItem_1 : decode cX9_readsItem 1 = .ok (.invokevirtual 147, 3) := by decide +kernel
theorem dX9_readsItem_4 : decode cX9_readsItem 4 = .ok (.istore_n 1, 1) := by decide +kernel
theorem dX9_readsItem_5 : decode cX9_readsItem 5 = .ok (.iload_n 1, 1) := by decide +kernel
theorem dX9_readsItem_6 : decode cX9_readsItem 6 = .ok (.iconst 1, 1) := by decide +kernel
theorem dX9_readsItem_7 : decode cX9_readsItem 7 = .ok (.if_icmp .lt 17, 3) := by decide +kernel
theorem dX9_readsItem_10 : decode cX9_readsItem 10 = .ok (.iload_n 1, 1) := by decide +kernel
theorem dX9_readsItem_11 : decode cX9_readsItem 11 = .ok (.iconst 1, 1) := by decide +kernel
theorem dX9_readsItem_12 : decode cX9_readsItem 12 = .ok (.if_icmp .ne 14, 3) := by decide +kernel
theorem dX9_readsItem_15 : decode cX9_readsItem 15 = .ok (.aload_n 0, 1) := by decide +kernel
theorem dX9_readsItem_16 : decode cX9_readsItem 16 = .ok (.getfield 69, 3) := by decide +kernel
theorem dX9_readsItem_19 : decode cX9_readsItem 19 = .ok (.bipush 6, 2) := by decide +kernel
theorem dX9_readsItem_21 : decode cX9_readsItem 21 = .ok (.if_icmp .ne 5, 3) := by decide +kernel
theorem dX9_readsItem_24 : decode cX9_readsItem 24 = .ok (.iconst 0, 1) := by decide +kernel
theorem dX9_readsItem_25 : decode cX9_readsItem 25 = .ok (.ireturn, 1) := by decide +kernel
theorem dX9_readsItem_26 : decode cX9_readsItem 26 = .ok (.aload_n 0, 1) := by decide +kernel
theorem dX9_readsItem_27 : decode cX9_readsItem 27 = .ok (.dup, 1) := by decide +kernel
theorem dX9_readsItem_28 : decode cX9_readsItem 28 = .ok (.getfield 109, 3) := by decide +kernel
theorem dX9_readsItem_31 : decode cX9_readsItem 31 = .ok (.aload_n 0, 1) := by decide +kernel
theorem dX9_readsItem_32 : decode cX9_readsItem 32 = .ok (.invokevirtual 119, 3) := by decide +kernel
theorem dX9_readsItem_35 : decode cX9_readsItem 35 = .ok (.iadd, 1) := by decide +kernel
theorem dX9_readsItem_36 : decode cX9_readsItem 36 = .ok (.putfield 109, 3) := by decide +kernel
theorem dX9_readsItem_39 : decode cX9_readsItem 39 = .ok (.iload_n 1, 1) := by decide +kernel
theorem dX9_readsItem_40 : decode cX9_readsItem 40 = .ok (.iconst 1, 1) := by decide +kernel
theorem dX9_readsItem_41 : decode cX9_readsItem 41 = .ok (.if_icmp .ne 10, 3) := by decide +kernel
theorem dX9_readsItem_44 : decode cX9_readsItem 44 = .ok (.aload_n 0, 1) := by decide +kernel
theorem dX9_readsItem_45 : decode cX9_readsItem 45 = .ok (.invokevirtual 150, 3) := by decide +kernel
theorem dX9_readsItem_48 : decode cX9_readsItem 48 = .ok (.goto 41, 3) := by decide +kernel
theorem dX9_readsItem_51 : decode cX9_readsItem 51 = .ok (.iload_n 1, 1) := by decide +kernel
theorem dX9_readsItem_52 : decode cX9_readsItem 52 = .ok (.iconst 3, 1) := by decide +kernel
theorem dX9_readsItem_53 : decode cX9_readsItem 53 = .ok (.if_icmp .ne 10, 3) := by decide +kernel
theorem dX9_readsItem_56 : decode cX9_readsItem 56 = .ok (.aload_n 0, 1) := by decide +kernel
theorem dX9_readsItem_57 : decode cX9_readsItem 57 = .ok (.invokevirtual 153, 3) := by decide +kernel
theorem dX9_readsItem_60 : decode cX9_readsItem 60 = .ok (.goto 29, 3) := by decide +kernel
theorem dX9_readsItem_63 : decode cX9_readsItem 63 = .ok (.iload_n 1, 1) := by decide +kernel
theorem dX9_readsItem_64 : decode cX9_readsItem 64 = .ok (.iconst 5, 1) := by decide +kernel
theorem dX9_readsItem_65 : decode cX9_readsItem 65 = .ok (.if_icmp .ne 10, 3) := by decide +kernel
theorem dX9_readsItem_68 : decode cX9_readsItem 68 = .ok (.aload_n 0, 1) := by decide +kernel
theorem dX9_readsItem_69 : decode cX9_readsItem 69 = .ok (.invokevirtual 156, 3) := by decide +kernel
theorem dX9_readsItem_72 : decode cX9_readsItem 72 = .ok (.goto 17, 3) := by decide +kernel
theorem dX9_readsItem_75 : decode cX9_readsItem 75 = .ok (.aload_n 0, 1) := by decide +kernel
theorem dX9_readsItem_76 : decode cX9_readsItem 76 = .ok (.iload_n 1, 1) := by decide +kernel
theorem dX9_readsItem_77 : decode cX9_readsItem 77 = .ok (.iconst 2, 1) := by decide +kernel
theorem dX9_readsItem_78 : decode cX9_readsItem 78 = .ok (.if_icmp .ne 7, 3) := by decide +kernel
theorem dX9_readsItem_81 : decode cX9_readsItem 81 = .ok (.iconst 1, 1) := by decide +kernel
theorem dX9_readsItem_82 : decode cX9_readsItem 82 = .ok (.goto 4, 3) := by decide +kernel
theorem dX9_readsItem_85 : decode cX9_readsItem 85 = .ok (.iconst 0, 1) := by decide +kernel
theorem dX9_readsItem_86 : decode cX9_readsItem 86 = .ok (.invokevirtual 159, 3) := by decide +kernel
theorem dX9_readsItem_89 : decode cX9_readsItem 89 = .ok (.ireturn, 1) := by decide +kernel
theorem dX9_readsFirst_0 : decode cX9_readsFirst 0 = .ok (.aload_n 0, 1) := by decide +kernel
theorem dX9_readsFirst_1 : decode cX9_readsFirst 1 = .ok (.invokevirtual 126, 3) := by decide +kernel
theorem dX9_readsFirst_4 : decode cX9_readsFirst 4 = .ok (.aload_n 0, 1) := by decide +kernel
theorem dX9_readsFirst_5 : decode cX9_readsFirst 5 = .ok (.invokevirtual 147, 3) := by decide +kernel
theorem dX9_readsFirst_8 : decode cX9_readsFirst 8 = .ok (.ifCond .eq 5, 3) := by decide +kernel
theorem dX9_readsFirst_11 : decode cX9_readsFirst 11 = .ok (.iconst 0, 1) := by decide +kernel
theorem dX9_readsFirst_12 : decode cX9_readsFirst 12 = .ok (.ireturn, 1) := by decide +kernel
theorem dX9_readsFirst_13 : decode cX9_readsFirst 13 = .ok (.aload_n 0, 1) := by decide +kernel
theorem dX9_readsFirst_14 : decode cX9_readsFirst 14 = .ok (.dup, 1) := by decide +kernel
theorem dX9_readsFirst_15 : decode cX9_readsFirst 15 = .ok (.getfield 109, 3) := by decide +kernel
theorem dX9_readsFirst_18 : decode cX9_readsFirst 18 = .ok (.aload_n 0, 1) := by decide +kernel
theorem dX9_readsFirst_19 : decode cX9_readsFirst 19 = .ok (.invokevirtual 119, 3) := by decide +kernel
theorem dX9_readsFirst_22 : decode cX9_readsFirst 22 = .ok (.iadd, 1) := by decide +kernel
theorem dX9_readsFirst_23 : decode cX9_readsFirst 23 = .ok (.putfield 109, 3) := by decide +kernel
theorem dX9_readsFirst_26 : decode cX9_readsFirst 26 = .ok (.aload_n 0, 1) := by decide +kernel
theorem dX9_readsFirst_27 : decode cX9_readsFirst 27 = .ok (.invokevirtual 66, 3) := by decide +kernel
theorem dX9_readsFirst_30 : decode cX9_readsFirst 30 = .ok (.iconst 0, 1) := by decide +kernel
theorem dX9_readsFirst_31 : decode cX9_readsFirst 31 = .ok (.istore_n 1, 1) := by decide +kernel
theorem dX9_readsFirst_32 : decode cX9_readsFirst 32 = .ok (.iload_n 1, 1) := by decide +kernel
theorem dX9_readsFirst_33 : decode cX9_readsFirst 33 = .ok (.bipush 8, 2) := by decide +kernel
theorem dX9_readsFirst_35 : decode cX9_readsFirst 35 = .ok (.if_icmp .ge 30, 3) := by decide +kernel
theorem dX9_readsFirst_38 : decode cX9_readsFirst 38 = .ok (.aload_n 0, 1) := by decide +kernel
theorem dX9_readsFirst_39 : decode cX9_readsFirst 39 = .ok (.iconst 0, 1) := by decide +kernel
theorem dX9_readsFirst_40 : decode cX9_readsFirst 40 = .ok (.iconst 5, 1) := by decide +kernel
theorem dX9_readsFirst_41 : decode cX9_readsFirst 41 = .ok (.invokevirtual 135, 3) := by decide +kernel
theorem dX9_readsFirst_44 : decode cX9_readsFirst 44 = .ok (.ifCond .ne 5, 3) := by decide +kernel
theorem dX9_readsFirst_47 : decode cX9_readsFirst 47 = .ok (.iconst 0, 1) := by decide +kernel
theorem dX9_readsFirst_48 : decode cX9_readsFirst 48 = .ok (.ireturn, 1) := by decide +kernel
theorem dX9_readsFirst_49 : decode cX9_readsFirst 49 = .ok (.aload_n 0, 1) := by decide +kernel
theorem dX9_readsFirst_50 : decode cX9_readsFirst 50 = .ok (.getfield 25, 3) := by decide +kernel
theorem dX9_readsFirst_53 : decode cX9_readsFirst 53 = .ok (.iload_n 1, 1) := by decide +kernel
theorem dX9_readsFirst_54 : decode cX9_readsFirst 54 = .ok (.aload_n 0, 1) := by decide +kernel
theorem dX9_readsFirst_55 : decode cX9_readsFirst 55 = .ok (.getfield 132, 3) := by decide +kernel
theorem dX9_readsFirst_58 : decode cX9_readsFirst 58 = .ok (.iastore, 1) := by decide +kernel
theorem dX9_readsFirst_59 : decode cX9_readsFirst 59 = .ok (.iinc 1 1, 3) := by decide +kernel
theorem dX9_readsFirst_62 : decode cX9_readsFirst 62 = .ok (.goto (-30), 3) := by decide +kernel
theorem dX9_readsFirst_65 : decode cX9_readsFirst 65 = .ok (.aload_n 0, 1) := by decide +kernel
theorem dX9_readsFirst_66 : decode cX9_readsFirst 66 = .ok (.invokevirtual 139, 3) := by decide +kernel
theorem dX9_readsFirst_69 : decode cX9_readsFirst 69 = .ok (.ireturn, 1) := by decide +kernel
theorem dX9_readsHouse_0 : decode cX9_readsHouse 0 = .ok (.aload_n 0, 1) := by decide +kernel
theorem dX9_readsHouse_1 : decode cX9_readsHouse 1 = .ok (.iconst 0, 1) := by decide +kernel
theorem dX9_readsHouse_2 : decode cX9_readsHouse 2 = .ok (.putfield 109, 3) := by decide +kernel
theorem dX9_readsHouse_5 : decode cX9_readsHouse 5 = .ok (.aload_n 0, 1) := by decide +kernel
theorem dX9_readsHouse_6 : decode cX9_readsHouse 6 = .ok (.invokevirtual 163, 3) := by decide +kernel
theorem dX9_readsHouse_9 : decode cX9_readsHouse 9 = .ok (.ifCond .ne 5, 3) := by decide +kernel
theorem dX9_readsHouse_12 : decode cX9_readsHouse 12 = .ok (.iconst (-1), 1) := by decide +kernel
theorem dX9_readsHouse_13 : decode cX9_readsHouse 13 = .ok (.ireturn, 1) := by decide +kernel
theorem dX9_readsHouse_14 : decode cX9_readsHouse 14 = .ok (.iconst 1, 1) := by decide +kernel
theorem dX9_readsHouse_15 : decode cX9_readsHouse 15 = .ok (.istore_n 1, 1) := by decide +kernel
theorem dX9_readsHouse_16 : decode cX9_readsHouse 16 = .ok (.aload_n 0, 1) := by decide +kernel
theorem dX9_readsHouse_17 : decode cX9_readsHouse 17 = .ok (.invokevirtual 126, 3) := by decide +kernel
theorem dX9_readsHouse_20 : decode cX9_readsHouse 20 = .ok (.aload_n 0, 1) := by decide +kernel
theorem dX9_readsHouse_21 : decode cX9_readsHouse 21 = .ok (.getfield 109, 3) := by decide +kernel
theorem dX9_readsHouse_24 : decode cX9_readsHouse 24 = .ok (.aload_n 0, 1) := by decide +kernel
theorem dX9_readsHouse_25 : decode cX9_readsHouse 25 = .ok (.getfield 106, 3) := by decide +kernel
theorem dX9_readsHouse_28 : decode cX9_readsHouse 28 = .ok (.if_icmp .ge 22, 3) := by decide +kernel
theorem dX9_readsHouse_31 : decode cX9_readsHouse 31 = .ok (.aload_n 0, 1) := by decide +kernel
theorem dX9_readsHouse_32 : decode cX9_readsHouse 32 = .ok (.invokevirtual 166, 3) := by decide +kernel
theorem dX9_readsHouse_35 : decode cX9_readsHouse 35 = .ok (.ifCond .ne 5, 3) := by decide +kernel
theorem dX9_readsHouse_38 : decode cX9_readsHouse 38 = .ok (.iconst (-1), 1) := by decide +kernel
theorem dX9_readsHouse_39 : decode cX9_readsHouse 39 = .ok (.ireturn, 1) := by decide +kernel
theorem dX9_readsHouse_40 : decode cX9_readsHouse 40 = .ok (.iinc 1 1, 3) := by decide +kernel
theorem dX9_readsHouse_43 : decode cX9_readsHouse 43 = .ok (.aload_n 0, 1) := by decide +kernel
theorem dX9_readsHouse_44 : decode cX9_readsHouse 44 = .ok (.invokevirtual 126, 3) := by decide +kernel
theorem dX9_readsHouse_47 : decode cX9_readsHouse 47 = .ok (.goto (-27), 3) := by decide +kernel
theorem dX9_readsHouse_50 : decode cX9_readsHouse 50 = .ok (.iload_n 1, 1) := by decide +kernel
theorem dX9_readsHouse_51 : decode cX9_readsHouse 51 = .ok (.ireturn, 1) := by decide +kernel
theorem dX9_read_0 : decode cX9_read 0 = .ok (.aload_n 0, 1) := by decide +kernel
theorem dX9_read_1 : decode cX9_read 1 = .ok (.aload_n 0, 1) := by decide +kernel
theorem dX9_read_2 : decode cX9_read 2 = .ok (.getfield 40, 3) := by decide +kernel
theorem dX9_read_5 : decode cX9_read 5 = .ok (.iconst 0, 1) := by decide +kernel
theorem dX9_read_6 : decode cX9_read 6 = .ok (.invokevirtual 169, 3) := by decide +kernel
theorem dX9_read_9 : decode cX9_read 9 = .ok (.aload_n 0, 1) := by decide +kernel
theorem dX9_read_10 : decode cX9_read 10 = .ok (.invokevirtual 173, 3) := by decide +kernel
theorem dX9_read_13 : decode cX9_read 13 = .ok (.istore_n 1, 1) := by decide +kernel
theorem dX9_read_14 : decode cX9_read 14 = .ok (.iload_n 1, 1) := by decide +kernel
theorem dX9_read_15 : decode cX9_read 15 = .ok (.ifCond .ge 20, 3) := by decide +kernel
theorem dX9_read_18 : decode cX9_read 18 = .ok (.aload_n 0, 1) := by decide +kernel
theorem dX9_read_19 : decode cX9_read 19 = .ok (.aload_n 0, 1) := by decide +kernel
theorem dX9_read_20 : decode cX9_read 20 = .ok (.getfield 40, 3) := by decide +kernel
theorem dX9_read_23 : decode cX9_read 23 = .ok (.iconst 0, 1) := by decide +kernel
theorem dX9_read_24 : decode cX9_read 24 = .ok (.invokevirtual 176, 3) := by decide +kernel
theorem dX9_read_27 : decode cX9_read 27 = .ok (.bipush (-10), 2) := by decide +kernel
theorem dX9_read_29 : decode cX9_read 29 = .ok (.aload_n 0, 1) := by decide +kernel
theorem dX9_read_30 : decode cX9_read 30 = .ok (.getfield 109, 3) := by decide +kernel
theorem dX9_read_33 : decode cX9_read 33 = .ok (.isub, 1) := by decide +kernel
theorem dX9_read_34 : decode cX9_read 34 = .ok (.ireturn, 1) := by decide +kernel
theorem dX9_read_35 : decode cX9_read 35 = .ok (.aload_n 0, 1) := by decide +kernel
theorem dX9_read_36 : decode cX9_read 36 = .ok (.iconst 0, 1) := by decide +kernel
theorem dX9_read_37 : decode cX9_read 37 = .ok (.putfield 88, 3) := by decide +kernel
theorem dX9_read_40 : decode cX9_read 40 = .ok (.iload_n 1, 1) := by decide +kernel
theorem dX9_read_41 : decode cX9_read 41 = .ok (.ireturn, 1) := by decide +kernel
theorem dX9_wantsBy_0 : decode cX9_wantsBy 0 = .ok (.iconst 1, 1) := by decide +kernel
theorem dX9_wantsBy_1 : decode cX9_wantsBy 1 = .ok (.iload_n 1, 1) := by decide +kernel
theorem dX9_wantsBy_2 : decode cX9_wantsBy 2 = .ok (.iconst 4, 1) := by decide +kernel
theorem dX9_wantsBy_3 : decode cX9_wantsBy 3 = .ok (.idiv, 1) := by decide +kernel
theorem dX9_wantsBy_4 : decode cX9_wantsBy 4 = .ok (.iadd, 1) := by decide +kernel
theorem dX9_wantsBy_5 : decode cX9_wantsBy 5 = .ok (.istore_n 3, 1) := by decide +kernel
theorem dX9_wantsBy_6 : decode cX9_wantsBy 6 = .ok (.iload_n 0, 1) := by decide +kernel
theorem dX9_wantsBy_7 : decode cX9_wantsBy 7 = .ok (.tableswitch 69 1 5 #[33, 35, 37, 50, 61], 33) := by decide +kernel
theorem dX9_wantsBy_40 : decode cX9_wantsBy 40 = .ok (.iconst 2, 1) := by decide +kernel
theorem dX9_wantsBy_41 : decode cX9_wantsBy 41 = .ok (.ireturn, 1) := by decide +kernel
theorem dX9_wantsBy_42 : decode cX9_wantsBy 42 = .ok (.iload_n 3, 1) := by decide +kernel
theorem dX9_wantsBy_43 : decode cX9_wantsBy 43 = .ok (.ireturn, 1) := by decide +kernel
theorem dX9_wantsBy_44 : decode cX9_wantsBy 44 = .ok (.iload_n 2, 1) := by decide +kernel
theorem dX9_wantsBy_45 : decode cX9_wantsBy 45 = .ok (.iconst 2, 1) := by decide +kernel
theorem dX9_wantsBy_46 : decode cX9_wantsBy 46 = .ok (.irem, 1) := by decide +kernel
theorem dX9_wantsBy_47 : decode cX9_wantsBy 47 = .ok (.iconst 1, 1) := by decide +kernel
theorem dX9_wantsBy_48 : decode cX9_wantsBy 48 = .ok (.if_icmp .ne 7, 3) := by decide +kernel
theorem dX9_wantsBy_51 : decode cX9_wantsBy 51 = .ok (.iconst 4, 1) := by decide +kernel
theorem dX9_wantsBy_52 : decode cX9_wantsBy 52 = .ok (.goto 4, 3) := by decide +kernel
theorem dX9_wantsBy_55 : decode cX9_wantsBy 55 = .ok (.iconst 2, 1) := by decide +kernel
theorem dX9_wantsBy_56 : decode cX9_wantsBy 56 = .ok (.ireturn, 1) := by decide +kernel
theorem dX9_wantsBy_57 : decode cX9_wantsBy 57 = .ok (.iload_n 1, 1) := by decide +kernel
theorem dX9_wantsBy_58 : decode cX9_wantsBy 58 = .ok (.iconst 5, 1) := by decide +kernel
theorem dX9_wantsBy_59 : decode cX9_wantsBy 59 = .ok (.if_icmp .gt 7, 3) := by decide +kernel
theorem dX9_wantsBy_62 : decode cX9_wantsBy 62 = .ok (.iconst 0, 1) := by decide +kernel
theorem dX9_wantsBy_63 : decode cX9_wantsBy 63 = .ok (.goto 4, 3) := by decide +kernel
theorem dX9_wantsBy_66 : decode cX9_wantsBy 66 = .ok (.iconst 1, 1) := by decide +kernel
theorem dX9_wantsBy_67 : decode cX9_wantsBy 67 = .ok (.ireturn, 1) := by decide +kernel
theorem dX9_wantsBy_68 : decode cX9_wantsBy 68 = .ok (.iconst 5, 1) := by decide +kernel
theorem dX9_wantsBy_69 : decode cX9_wantsBy 69 = .ok (.iconst 2, 1) := by decide +kernel
theorem dX9_wantsBy_70 : decode cX9_wantsBy 70 = .ok (.iload_n 3, 1) := by decide +kernel
theorem dX9_wantsBy_71 : decode cX9_wantsBy 71 = .ok (.imul, 1) := by decide +kernel
theorem dX9_wantsBy_72 : decode cX9_wantsBy 72 = .ok (.invokestatic 179, 3) := by decide +kernel
theorem dX9_wantsBy_75 : decode cX9_wantsBy 75 = .ok (.ireturn, 1) := by decide +kernel
theorem dX9_wantsBy_76 : decode cX9_wantsBy 76 = .ok (.iconst 1, 1) := by decide +kernel
theorem dX9_wantsBy_77 : decode cX9_wantsBy 77 = .ok (.ireturn, 1) := by decide +kernel
theorem dX9_worthBy_0 : decode cX9_worthBy 0 = .ok (.iload_n 0, 1) := by decide +kernel
theorem dX9_worthBy_1 : decode cX9_worthBy 1 = .ok (.tableswitch 85 1 5 #[35, 37, 49, 60, 73], 35) := by decide +kernel
theorem dX9_worthBy_36 : decode cX9_worthBy 36 = .ok (.iconst 2, 1) := by decide +kernel
theorem dX9_worthBy_37 : decode cX9_worthBy 37 = .ok (.ireturn, 1) := by decide +kernel
theorem dX9_worthBy_38 : decode cX9_worthBy 38 = .ok (.iload_n 1, 1) := by decide +kernel
theorem dX9_worthBy_39 : decode cX9_worthBy 39 = .ok (.bipush 18, 2) := by decide +kernel
theorem dX9_worthBy_41 : decode cX9_worthBy 41 = .ok (.if_icmp .lt 7, 3) := by decide +kernel
theorem dX9_worthBy_44 : decode cX9_worthBy 44 = .ok (.iconst 0, 1) := by decide +kernel
theorem dX9_worthBy_45 : decode cX9_worthBy 45 = .ok (.goto 4, 3) := by decide +kernel
theorem dX9_worthBy_48 : decode cX9_worthBy 48 = .ok (.iconst 1, 1) := by decide +kernel
theorem dX9_worthBy_49 : decode cX9_worthBy 49 = .ok (.ireturn, 1) := by decide +kernel
theorem dX9_worthBy_50 : decode cX9_worthBy 50 = .ok (.iload_n 2, 1) := by decide +kernel
theorem dX9_worthBy_51 : decode cX9_worthBy 51 = .ok (.iconst (-1), 1) := by decide +kernel
theorem dX9_worthBy_52 : decode cX9_worthBy 52 = .ok (.if_icmp .ne 7, 3) := by decide +kernel
theorem dX9_worthBy_55 : decode cX9_worthBy 55 = .ok (.iconst 1, 1) := by decide +kernel
theorem dX9_worthBy_56 : decode cX9_worthBy 56 = .ok (.goto 4, 3) := by decide +kernel
theorem dX9_worthBy_59 : decode cX9_worthBy 59 = .ok (.iconst 2, 1) := by decide +kernel
theorem dX9_worthBy_60 : decode cX9_worthBy 60 = .ok (.ireturn, 1) := by decide +kernel
theorem dX9_worthBy_61 : decode cX9_worthBy 61 = .ok (.iload_n 1, 1) := by decide +kernel
theorem dX9_worthBy_62 : decode cX9_worthBy 62 = .ok (.iconst 2, 1) := by decide +kernel
theorem dX9_worthBy_63 : decode cX9_worthBy 63 = .ok (.irem, 1) := by decide +kernel
theorem dX9_worthBy_64 : decode cX9_worthBy 64 = .ok (.iconst 1, 1) := by decide +kernel
theorem dX9_worthBy_65 : decode cX9_worthBy 65 = .ok (.if_icmp .ne 7, 3) := by decide +kernel
theorem dX9_worthBy_68 : decode cX9_worthBy 68 = .ok (.iconst 1, 1) := by decide +kernel
theorem dX9_worthBy_69 : decode cX9_worthBy 69 = .ok (.goto 4, 3) := by decide +kernel
theorem dX9_worthBy_72 : decode cX9_worthBy 72 = .ok (.iconst 0, 1) := by decide +kernel
theorem dX9_worthBy_73 : decode cX9_worthBy 73 = .ok (.ireturn, 1) := by decide +kernel
theorem dX9_worthBy_74 : decode cX9_worthBy 74 = .ok (.iload_n 1, 1) := by decide +kernel
theorem dX9_worthBy_75 : decode cX9_worthBy 75 = .ok (.bipush 18, 2) := by decide +kernel
theorem dX9_worthBy_77 : decode cX9_worthBy 77 = .ok (.if_icmp .lt 7, 3) := by decide +kernel
theorem dX9_worthBy_80 : decode cX9_worthBy 80 = .ok (.iconst 4, 1) := by decide +kernel
theorem dX9_worthBy_81 : decode cX9_worthBy 81 = .ok (.goto 4, 3) := by decide +kernel
theorem dX9_worthBy_84 : decode cX9_worthBy 84 = .ok (.iconst 2, 1) := by decide +kernel
theorem dX9_worthBy_85 : decode cX9_worthBy 85 = .ok (.ireturn, 1) := by decide +kernel
theorem dX9_worthBy_86 : decode cX9_worthBy 86 = .ok (.iconst 1, 1) := by decide +kernel
theorem dX9_worthBy_87 : decode cX9_worthBy 87 = .ok (.ireturn, 1) := by decide +kernel
theorem dX9_wants_0 : decode cX9_wants 0 = .ok (.aload_n 0, 1) := by decide +kernel
theorem dX9_wants_1 : decode cX9_wants 1 = .ok (.getfield 25, 3) := by decide +kernel
theorem dX9_wants_4 : decode cX9_wants 4 = .ok (.iload_n 2, 1) := by decide +kernel
theorem dX9_wants_5 : decode cX9_wants 5 = .ok (.iaload, 1) := by decide +kernel
theorem dX9_wants_6 : decode cX9_wants 6 = .ok (.aload_n 0, 1) := by decide +kernel
theorem dX9_wants_7 : decode cX9_wants 7 = .ok (.getfield 16, 3) := by decide +kernel
theorem dX9_wants_10 : decode cX9_wants 10 = .ok (.iload_n 1, 1) := by decide +kernel
theorem dX9_wants_11 : decode cX9_wants 11 = .ok (.iaload, 1) := by decide +kernel
theorem dX9_wants_12 : decode cX9_wants 12 = .ok (.iload_n 3, 1) := by decide +kernel
theorem dX9_wants_13 : decode cX9_wants 13 = .ok (.invokestatic 182, 3) := by decide +kernel
theorem dX9_wants_16 : decode cX9_wants 16 = .ok (.ireturn, 1) := by decide +kernel
theorem dX9_worth_0 : decode cX9_worth 0 = .ok (.aload_n 0, 1) := by decide +kernel
theorem dX9_worth_1 : decode cX9_worth 1 = .ok (.getfield 13, 3) := by decide +kernel
theorem dX9_worth_4 : decode cX9_worth 4 = .ok (.iload_n 1, 1) := by decide +kernel
theorem dX9_worth_5 : decode cX9_worth 5 = .ok (.iaload, 1) := by decide +kernel
theorem dX9_worth_6 : decode cX9_worth 6 = .ok (.iload_n 2, 1) := by decide +kernel
theorem dX9_worth_7 : decode cX9_worth 7 = .ok (.aload_n 0, 1) := by decide +kernel
theorem dX9_worth_8 : decode cX9_worth 8 = .ok (.getfield 19, 3) := by decide +kernel
theorem dX9_worth_11 : decode cX9_worth 11 = .ok (.iload_n 1, 1) := by decide +kernel
theorem dX9_worth_12 : decode cX9_worth 12 = .ok (.iaload, 1) := by decide +kernel
theorem dX9_worth_13 : decode cX9_worth 13 = .ok (.invokestatic 186, 3) := by decide +kernel
theorem dX9_worth_16 : decode cX9_worth 16 = .ok (.ireturn, 1) := by decide +kernel
theorem dX9_wordFor_0 : decode cX9_wordFor 0 = .ok (.iconst 0, 1) := by decide +kernel
theorem dX9_wordFor_1 : decode cX9_wordFor 1 = .ok (.istore 4, 2) := by decide +kernel
theorem dX9_wordFor_3 : decode cX9_wordFor 3 = .ok (.iconst 0, 1) := by decide +kernel
theorem dX9_wordFor_4 : decode cX9_wordFor 4 = .ok (.istore 5, 2) := by decide +kernel
theorem dX9_wordFor_6 : decode cX9_wordFor 6 = .ok (.iload 5, 2) := by decide +kernel
theorem dX9_wordFor_8 : decode cX9_wordFor 8 = .ok (.aload_n 0, 1) := by decide +kernel
theorem dX9_wordFor_9 : decode cX9_wordFor 9 = .ok (.getfield 69, 3) := by decide +kernel
theorem dX9_wordFor_12 : decode cX9_wordFor 12 = .ok (.if_icmp .ge 45, 3) := by decide +kernel
theorem dX9_wordFor_15 : decode cX9_wordFor 15 = .ok (.iload 4, 2) := by decide +kernel
theorem dX9_wordFor_17 : decode cX9_wordFor 17 = .ok (.iload 5, 2) := by decide +kernel
theorem dX9_wordFor_19 : decode cX9_wordFor 19 = .ok (.iload_n 1, 1) := by decide +kernel
theorem dX9_wordFor_20 : decode cX9_wordFor 20 = .ok (.if_icmp .eq 27, 3) := by decide +kernel
theorem dX9_wordFor_23 : decode cX9_wordFor 23 = .ok (.aload_n 0, 1) := by decide +kernel
theorem dX9_wordFor_24 : decode cX9_wordFor 24 = .ok (.getfield 22, 3) := by decide +kernel
theorem dX9_wordFor_27 : decode cX9_wordFor 27 = .ok (.iload 5, 2) := by decide +kernel
theorem dX9_wordFor_29 : decode cX9_wordFor 29 = .ok (.iaload, 1) := by decide +kernel
theorem dX9_wordFor_30 : decode cX9_wordFor 30 = .ok (.iload_n 2, 1) := by decide +kernel
theorem dX9_wordFor_31 : decode cX9_wordFor 31 = .ok (.invokestatic 189, 3) := by decide +kernel
theorem dX9_wordFor_34 : decode cX9_wordFor 34 = .ok (.ifCond .eq 13, 3) := by decide +kernel
theorem dX9_wordFor_37 : decode cX9_wordFor 37 = .ok (.aload_n 0, 1) := by decide +kernel
theorem dX9_wordFor_38 : decode cX9_wordFor 38 = .ok (.iload 5, 2) := by decide +kernel
theorem dX9_wordFor_40 : decode cX9_wordFor 40 = .ok (.iload_n 3, 1) := by decide +kernel
theorem dX9_wordFor_41 : decode cX9_wordFor 41 = .ok (.invokevirtual 192, 3) := by decide +kernel
theorem dX9_wordFor_44 : decode cX9_wordFor 44 = .ok (.goto 4, 3) := by decide +kernel
theorem dX9_wordFor_47 : decode cX9_wordFor 47 = .ok (.iconst 0, 1) := by decide +kernel
theorem dX9_wordFor_48 : decode cX9_wordFor 48 = .ok (.iadd, 1) := by decide +kernel
theorem dX9_wordFor_49 : decode cX9_wordFor 49 = .ok (.istore 4, 2) := by decide +kernel
theorem dX9_wordFor_51 : decode cX9_wordFor 51 = .ok (.iinc 5 1, 3) := by decide +kernel
theorem dX9_wordFor_54 : decode cX9_wordFor 54 = .ok (.goto (-48), 3) := by decide +kernel
theorem dX9_wordFor_57 : decode cX9_wordFor 57 = .ok (.iload 4, 2) := by decide +kernel
theorem dX9_wordFor_59 : decode cX9_wordFor 59 = .ok (.ireturn, 1) := by decide +kernel
theorem dX9_dayMinute_0 : decode cX9_dayMinute 0 = .ok (.aload_n 0, 1) := by decide +kernel
theorem dX9_dayMinute_1 : decode cX9_dayMinute 1 = .ok (.getfield 73, 3) := by decide +kernel
theorem dX9_dayMinute_4 : decode cX9_dayMinute 4 = .ok (.bipush 24, 2) := by decide +kernel
theorem dX9_dayMinute_6 : decode cX9_dayMinute 6 = .ok (.irem, 1) := by decide +kernel
theorem dX9_dayMinute_7 : decode cX9_dayMinute 7 = .ok (.ireturn, 1) := by decide +kernel
theorem dX9_mayMeet_0 : decode cX9_mayMeet 0 = .ok (.aload_n 0, 1) := by decide +kernel
theorem dX9_mayMeet_1 : decode cX9_mayMeet 1 = .ok (.iload_n 1, 1) := by decide +kernel
theorem dX9_mayMeet_2 : decode cX9_mayMeet 2 = .ok (.iload_n 2, 1) := by decide +kernel
theorem dX9_mayMeet_3 : decode cX9_mayMeet 3 = .ok (.iload_n 3, 1) := by decide +kernel
theorem dX9_mayMeet_4 : decode cX9_mayMeet 4 = .ok (.invokevirtual 195, 3) := by decide +kernel
theorem dX9_mayMeet_7 : decode cX9_mayMeet 7 = .ok (.aload_n 0, 1) := by decide +kernel
theorem dX9_mayMeet_8 : decode cX9_mayMeet 8 = .ok (.iload_n 1, 1) := by decide +kernel
theorem dX9_mayMeet_9 : decode cX9_mayMeet 9 = .ok (.iload_n 2, 1) := by decide +kernel
theorem dX9_mayMeet_10 : decode cX9_mayMeet 10 = .ok (.iload_n 3, 1) := by decide +kernel
theorem dX9_mayMeet_11 : decode cX9_mayMeet 11 = .ok (.invokevirtual 198, 3) := by decide +kernel
theorem dX9_mayMeet_14 : decode cX9_mayMeet 14 = .ok (.if_icmp .lt 7, 3) := by decide +kernel
theorem dX9_mayMeet_17 : decode cX9_mayMeet 17 = .ok (.iconst 1, 1) := by decide +kernel
theorem dX9_mayMeet_18 : decode cX9_mayMeet 18 = .ok (.goto 4, 3) := by decide +kernel
theorem dX9_mayMeet_21 : decode cX9_mayMeet 21 = .ok (.iconst 0, 1) := by decide +kernel
theorem dX9_mayMeet_22 : decode cX9_mayMeet 22 = .ok (.ireturn, 1) := by decide +kernel
theorem dX9_knownAll_0 : decode cX9_knownAll 0 = .ok (.iconst 0, 1) := by decide +kernel
theorem dX9_knownAll_1 : decode cX9_knownAll 1 = .ok (.istore_n 1, 1) := by decide +kernel
theorem dX9_knownAll_2 : decode cX9_knownAll 2 = .ok (.iconst 0, 1) := by decide +kernel
theorem dX9_knownAll_3 : decode cX9_knownAll 3 = .ok (.istore_n 2, 1) := by decide +kernel
theorem dX9_knownAll_4 : decode cX9_knownAll 4 = .ok (.iload_n 2, 1) := by decide +kernel
theorem dX9_knownAll_5 : decode cX9_knownAll 5 = .ok (.aload_n 0, 1) := by decide +kernel
theorem dX9_knownAll_6 : decode cX9_knownAll 6 = .ok (.getfield 69, 3) := by decide +kernel
theorem dX9_knownAll_9 : decode cX9_knownAll 9 = .ok (.if_icmp .ge 21, 3) := by decide +kernel
theorem dX9_knownAll_12 : decode cX9_knownAll 12 = .ok (.iload_n 1, 1) := by decide +kernel
theorem dX9_knownAll_13 : decode cX9_knownAll 13 = .ok (.aload_n 0, 1) := by decide +kernel
theorem dX9_knownAll_14 : decode cX9_knownAll 14 = .ok (.getfield 22, 3) := by decide +kernel
theorem dX9_knownAll_17 : decode cX9_knownAll 17 = .ok (.iload_n 2, 1) := by decide +kernel
theorem dX9_knownAll_18 : decode cX9_knownAll 18 = .ok (.iaload, 1) := by decide +kernel
theorem dX9_knownAll_19 : decode cX9_knownAll 19 = .ok (.invokestatic 201, 3) := by decide +kernel
theorem dX9_knownAll_22 : decode cX9_knownAll 22 = .ok (.iadd, 1) := by decide +kernel
theorem dX9_knownAll_23 : decode cX9_knownAll 23 = .ok (.istore_n 1, 1) := by decide +kernel
theorem dX9_knownAll_24 : decode cX9_knownAll 24 = .ok (.iinc 2 1, 3) := by decide +kernel
theorem dX9_knownAll_27 : decode cX9_knownAll 27 = .ok (.goto (-23), 3) := by decide +kernel
theorem dX9_knownAll_30 : decode cX9_knownAll 30 = .ok (.iload_n 1, 1) := by decide +kernel
theorem dX9_knownAll_31 : decode cX9_knownAll 31 = .ok (.ireturn, 1) := by decide +kernel
theorem dX9_passes_0 : decode cX9_passes 0 = .ok (.iconst 0, 1) := by decide +kernel
theorem dX9_passes_1 : decode cX9_passes 1 = .ok (.istore_n 1, 1) := by decide +kernel
theorem dX9_passes_2 : decode cX9_passes 2 = .ok (.iconst 1, 1) := by decide +kernel
theorem dX9_passes_3 : decode cX9_passes 3 = .ok (.istore_n 2, 1) := by decide +kernel
theorem dX9_passes_4 : decode cX9_passes 4 = .ok (.iload_n 2, 1) := by decide +kernel
theorem dX9_passes_5 : decode cX9_passes 5 = .ok (.bipush 8, 2) := by decide +kernel
theorem dX9_passes_7 : decode cX9_passes 7 = .ok (.if_icmp .ge 51, 3) := by decide +kernel
theorem dX9_passes_10 : decode cX9_passes 10 = .ok (.iload_n 1, 1) := by decide +kernel
theorem dX9_passes_11 : decode cX9_passes 11 = .ok (.aload_n 0, 1) := by decide +kernel
theorem dX9_passes_12 : decode cX9_passes 12 = .ok (.getfield 76, 3) := by decide +kernel
theorem dX9_passes_15 : decode cX9_passes 15 = .ok (.iload_n 2, 1) := by decide +kernel
theorem dX9_passes_16 : decode cX9_passes 16 = .ok (.iconst 1, 1) := by decide +kernel
theorem dX9_passes_17 : decode cX9_passes 17 = .ok (.isub, 1) := by decide +kernel
theorem dX9_passes_18 : decode cX9_passes 18 = .ok (.invokestatic 189, 3) := by decide +kernel
theorem dX9_passes_21 : decode cX9_passes 21 = .ok (.ifCond .eq 28, 3) := by decide +kernel
theorem dX9_passes_24 : decode cX9_passes 24 = .ok (.aload_n 0, 1) := by decide +kernel
theorem dX9_passes_25 : decode cX9_passes 25 = .ok (.getfield 25, 3) := by decide +kernel
theorem dX9_passes_28 : decode cX9_passes 28 = .ok (.iload_n 2, 1) := by decide +kernel
theorem dX9_passes_29 : decode cX9_passes 29 = .ok (.iaload, 1) := by decide +kernel
theorem dX9_passes_30 : decode cX9_passes 30 = .ok (.ifCond .eq 13, 3) := by decide +kernel
theorem dX9_passes_33 : decode cX9_passes 33 = .ok (.aload_n 0, 1) := by decide +kernel
theorem dX9_passes_34 : decode cX9_passes 34 = .ok (.getfield 25, 3) := by decide +kernel
theorem dX9_passes_37 : decode cX9_passes 37 = .ok (.iload_n 2, 1) := by decide +kernel
theorem dX9_passes_38 : decode cX9_passes 38 = .ok (.iaload, 1) := by decide +kernel
theorem dX9_passes_39 : decode cX9_passes 39 = .ok (.iconst 4, 1) := by decide +kernel
theorem dX9_passes_40 : decode cX9_passes 40 = .ok (.if_icmp .ne 9, 3) := by decide +kernel
theorem dX9_passes_43 : decode cX9_passes 43 = .ok (.iconst 1, 1) := by decide +kernel
theorem dX9_passes_44 : decode cX9_passes 44 = .ok (.iload_n 2, 1) := by decide +kernel
theorem dX9_passes_45 : decode cX9_passes 45 = .ok (.ishl, 1) := by decide +kernel
theorem dX9_passes_46 : decode cX9_passes 46 = .ok (.goto 4, 3) := by decide +kernel
theorem dX9_passes_49 : decode cX9_passes 49 = .ok (.iconst 0, 1) := by decide +kernel
theorem dX9_passes_50 : decode cX9_passes 50 = .ok (.ior, 1) := by decide +kernel
theorem dX9_passes_51 : decode cX9_passes 51 = .ok (.istore_n 1, 1) := by decide +kernel
theorem dX9_passes_52 : decode cX9_passes 52 = .ok (.iinc 2 1, 3) := by decide +kernel
theorem dX9_passes_55 : decode cX9_passes 55 = .ok (.goto (-51), 3) := by decide +kernel
theorem dX9_passes_58 : decode cX9_passes 58 = .ok (.iconst 0, 1) := by decide +kernel
theorem dX9_passes_59 : decode cX9_passes 59 = .ok (.istore_n 2, 1) := by decide +kernel
theorem dX9_passes_60 : decode cX9_passes 60 = .ok (.iload_n 2, 1) := by decide +kernel
theorem dX9_passes_61 : decode cX9_passes 61 = .ok (.aload_n 0, 1) := by decide +kernel
theorem dX9_passes_62 : decode cX9_passes 62 = .ok (.getfield 69, 3) := by decide +kernel
theorem dX9_passes_65 : decode cX9_passes 65 = .ok (.if_icmp .ge 28, 3) := by decide +kernel
theorem dX9_passes_68 : decode cX9_passes 68 = .ok (.aload_n 0, 1) := by decide +kernel
theorem dX9_passes_69 : decode cX9_passes 69 = .ok (.getfield 22, 3) := by decide +kernel
theorem dX9_passes_72 : decode cX9_passes 72 = .ok (.iload_n 2, 1) := by decide +kernel
theorem dX9_passes_73 : decode cX9_passes 73 = .ok (.dup2, 1) := by decide +kernel
theorem dX9_passes_74 : decode cX9_passes 74 = .ok (.iaload, 1) := by decide +kernel
theorem dX9_passes_75 : decode cX9_passes 75 = .ok (.aload_n 0, 1) := by decide +kernel
theorem dX9_passes_76 : decode cX9_passes 76 = .ok (.getfield 22, 3) := by decide +kernel
theorem dX9_passes_79 : decode cX9_passes 79 = .ok (.iload_n 2, 1) := by decide +kernel
theorem dX9_passes_80 : decode cX9_passes 80 = .ok (.iaload, 1) := by decide +kernel
theorem dX9_passes_81 : decode cX9_passes 81 = .ok (.iconst 1, 1) := by decide +kernel
theorem dX9_passes_82 : decode cX9_passes 82 = .ok (.ishl, 1) := by decide +kernel
theorem dX9_passes_83 : decode cX9_passes 83 = .ok (.iload_n 1, 1) := by decide +kernel
theorem dX9_passes_84 : decode cX9_passes 84 = .ok (.iand, 1) := by decide +kernel
theorem dX9_passes_85 : decode cX9_passes 85 = .ok (.ior, 1) := by decide +kernel
theorem dX9_passes_86 : decode cX9_passes 86 = .ok (.iastore, 1) := by decide +kernel
theorem dX9_passes_87 : decode cX9_passes 87 = .ok (.iinc 2 1, 3) := by decide +kernel
theorem dX9_passes_90 : decode cX9_passes 90 = .ok (.goto (-30), 3) := by decide +kernel
theorem dX9_passes_93 : decode cX9_passes 93 = .ok (.aload_n 0, 1) := by decide +kernel
theorem dX9_passes_94 : decode cX9_passes 94 = .ok (.dup, 1) := by decide +kernel
theorem dX9_passes_95 : decode cX9_passes 95 = .ok (.getfield 73, 3) := by decide +kernel
theorem dX9_passes_98 : decode cX9_passes 98 = .ok (.iconst 1, 1) := by decide +kernel
theorem dX9_passes_99 : decode cX9_passes 99 = .ok (.iadd, 1) := by decide +kernel
theorem dX9_passes_100 : decode cX9_passes 100 = .ok (.putfield 73, 3) := by decide +kernel
theorem dX9_passes_103 : decode cX9_passes 103 = .ok (.return_, 1) := by decide +kernel
theorem dX9_goesOn_0 : decode cX9_goesOn 0 = .ok (.iconst 0, 1) := by decide +kernel
theorem dX9_goesOn_1 : decode cX9_goesOn 1 = .ok (.istore_n 2, 1) := by decide +kernel
theorem dX9_goesOn_2 : decode cX9_goesOn 2 = .ok (.iload_n 2, 1) := by decide +kernel
theorem dX9_goesOn_3 : decode cX9_goesOn 3 = .ok (.iload_n 1, 1) := by decide +kernel
theorem dX9_goesOn_4 : decode cX9_goesOn 4 = .ok (.if_icmp .ge 13, 3) := by decide +kernel
theorem dX9_goesOn_7 : decode cX9_goesOn 7 = .ok (.aload_n 0, 1) := by decide +kernel
theorem dX9_goesOn_8 : decode cX9_goesOn 8 = .ok (.invokevirtual 204, 3) := by decide +kernel
theorem dX9_goesOn_11 : decode cX9_goesOn 11 = .ok (.iinc 2 1, 3) := by decide +kernel
theorem dX9_goesOn_14 : decode cX9_goesOn 14 = .ok (.goto (-12), 3) := by decide +kernel
theorem dX9_goesOn_17 : decode cX9_goesOn 17 = .ok (.return_, 1) := by decide +kernel
theorem dX9_lays_0 : decode cX9_lays 0 = .ok (.aload_n 1, 1) := by decide +kernel
theorem dX9_lays_1 : decode cX9_lays 1 = .ok (.iload_n 2, 1) := by decide +kernel
theorem dX9_lays_2 : decode cX9_lays 2 = .ok (.aload_n 0, 1) := by decide +kernel
theorem dX9_lays_3 : decode cX9_lays 3 = .ok (.getfield 73, 3) := by decide +kernel
theorem dX9_lays_6 : decode cX9_lays 6 = .ok (.iastore, 1) := by decide +kernel
theorem dX9_lays_7 : decode cX9_lays 7 = .ok (.aload_n 1, 1) := by decide +kernel
theorem dX9_lays_8 : decode cX9_lays 8 = .ok (.iload_n 2, 1) := by decide +kernel
theorem dX9_lays_9 : decode cX9_lays 9 = .ok (.iconst 1, 1) := by decide +kernel
theorem dX9_lays_10 : decode cX9_lays 10 = .ok (.iadd, 1) := by decide +kernel
theorem dX9_lays_11 : decode cX9_lays 11 = .ok (.aload_n 0, 1) := by decide +kernel
theorem dX9_lays_12 : decode cX9_lays 12 = .ok (.getfield 76, 3) := by decide +kernel
theorem dX9_lays_15 : decode cX9_lays 15 = .ok (.iastore, 1) := by decide +kernel
theorem dX9_lays_16 : decode cX9_lays 16 = .ok (.iconst 0, 1) := by decide +kernel
theorem dX9_lays_17 : decode cX9_lays 17 = .ok (.istore_n 3, 1) := by decide +kernel
theorem dX9_lays_18 : decode cX9_lays 18 = .ok (.iload_n 3, 1) := by decide +kernel
theorem dX9_lays_19 : decode cX9_lays 19 = .ok (.bipush 6, 2) := by decide +kernel
theorem dX9_lays_21 : decode cX9_lays 21 = .ok (.if_icmp .ge 36, 3) := by decide +kernel
theorem dX9_lays_24 : decode cX9_lays 24 = .ok (.aload_n 1, 1) := by decide +kernel
theorem dX9_lays_25 : decode cX9_lays 25 = .ok (.iload_n 2, 1) := by decide +kernel
theorem dX9_lays_26 : decode cX9_lays 26 = .ok (.iconst 2, 1) := by decide +kernel
theorem dX9_lays_27 : decode cX9_lays 27 = .ok (.iadd, 1) := by decide +kernel
theorem dX9_lays_28 : decode cX9_lays 28 = .ok (.iload_n 3, 1) := by decide +kernel
theorem dX9_lays_29 : decode cX9_lays 29 = .ok (.iadd, 1) := by decide +kernel
theorem dX9_lays_30 : decode cX9_lays 30 = .ok (.aload_n 0, 1) := by decide +kernel
theorem dX9_lays_31 : decode cX9_lays 31 = .ok (.getfield 22, 3) := by decide +kernel
theorem dX9_lays_34 : decode cX9_lays 34 = .ok (.iload_n 3, 1) := by decide +kernel
theorem dX9_lays_35 : decode cX9_lays 35 = .ok (.iaload, 1) := by decide +kernel
theorem dX9_lays_36 : decode cX9_lays 36 = .ok (.iastore, 1) := by decide +kernel
theorem dX9_lays_37 : decode cX9_lays 37 = .ok (.aload_n 1, 1) := by decide +kernel
theorem dX9_lays_38 : decode cX9_lays 38 = .ok (.iload_n 2, 1) := by decide +kernel
theorem dX9_lays_39 : decode cX9_lays 39 = .ok (.bipush 8, 2) := by decide +kernel
theorem dX9_lays_41 : decode cX9_lays 41 = .ok (.iadd, 1) := by decide +kernel
theorem dX9_lays_42 : decode cX9_lays 42 = .ok (.iload_n 3, 1) := by decide +kernel
theorem dX9_lays_43 : decode cX9_lays 43 = .ok (.iadd, 1) := by decide +kernel
theorem dX9_lays_44 : decode cX9_lays 44 = .ok (.aload_n 0, 1) := by decide +kernel
theorem dX9_lays_45 : decode cX9_lays 45 = .ok (.getfield 19, 3) := by decide +kernel
theorem dX9_lays_48 : decode cX9_lays 48 = .ok (.iload_n 3, 1) := by decide +kernel
theorem dX9_lays_49 : decode cX9_lays 49 = .ok (.iaload, 1) := by decide +kernel
theorem dX9_lays_50 : decode cX9_lays 50 = .ok (.iastore, 1) := by decide +kernel
theorem dX9_lays_51 : decode cX9_lays 51 = .ok (.iinc 3 1, 3) := by decide +kernel
theorem dX9_lays_54 : decode cX9_lays 54 = .ok (.goto (-36), 3) := by decide +kernel
theorem dX9_lays_57 : decode cX9_lays 57 = .ok (.iconst 0, 1) := by decide +kernel
theorem dX9_lays_58 : decode cX9_lays 58 = .ok (.istore_n 3, 1) := by decide +kernel
theorem dX9_lays_59 : decode cX9_lays 59 = .ok (.iload_n 3, 1) := by decide +kernel
theorem dX9_lays_60 : decode cX9_lays 60 = .ok (.bipush 8, 2) := by decide +kernel
theorem dX9_lays_62 : decode cX9_lays 62 = .ok (.if_icmp .ge 23, 3) := by decide +kernel
theorem dX9_lays_65 : decode cX9_lays 65 = .ok (.aload_n 1, 1) := by decide +kernel
theorem dX9_lays_66 : decode cX9_lays 66 = .ok (.iload_n 2, 1) := by decide +kernel
theorem dX9_lays_67 : decode cX9_lays 67 = .ok (.bipush 14, 2) := by decide +kernel
theorem dX9_lays_69 : decode cX9_lays 69 = .ok (.iadd, 1) := by decide +kernel
theorem dX9_lays_70 : decode cX9_lays 70 = .ok (.iload_n 3, 1) := by decide +kernel
theorem dX9_lays_71 : decode cX9_lays 71 = .ok (.iadd, 1) := by decide +kernel
theorem dX9_lays_72 : decode cX9_lays 72 = .ok (.aload_n 0, 1) := by decide +kernel
theorem dX9_lays_73 : decode cX9_lays 73 = .ok (.getfield 25, 3) := by decide +kernel
theorem dX9_lays_76 : decode cX9_lays 76 = .ok (.iload_n 3, 1) := by decide +kernel
theorem dX9_lays_77 : decode cX9_lays 77 = .ok (.iaload, 1) := by decide +kernel
theorem dX9_lays_78 : decode cX9_lays 78 = .ok (.iastore, 1) := by decide +kernel
theorem dX9_lays_79 : decode cX9_lays 79 = .ok (.iinc 3 1, 3) := by decide +kernel
theorem dX9_lays_82 : decode cX9_lays 82 = .ok (.goto (-23), 3) := by decide +kernel
theorem dX9_lays_85 : decode cX9_lays 85 = .ok (.return_, 1) := by decide +kernel
theorem dX9_takes_0 : decode cX9_takes 0 = .ok (.aload_n 0, 1) := by decide +kernel
theorem dX9_takes_1 : decode cX9_takes 1 = .ok (.aload_n 1, 1) := by decide +kernel
theorem dX9_takes_2 : decode cX9_takes 2 = .ok (.iload_n 2, 1) := by decide +kernel
theorem dX9_takes_3 : decode cX9_takes 3 = .ok (.iaload, 1) := by decide +kernel
theorem dX9_takes_4 : decode cX9_takes 4 = .ok (.putfield 73, 3) := by decide +kernel
theorem dX9_takes_7 : decode cX9_takes 7 = .ok (.aload_n 0, 1) := by decide +kernel
theorem dX9_takes_8 : decode cX9_takes 8 = .ok (.aload_n 1, 1) := by decide +kernel
theorem dX9_takes_9 : decode cX9_takes 9 = .ok (.iload_n 2, 1) := by decide +kernel
theorem dX9_takes_10 : decode cX9_takes 10 = .ok (.iconst 1, 1) := by decide +kernel
theorem dX9_takes_11 : decode cX9_takes 11 = .ok (.iadd, 1) := by decide +kernel
theorem dX9_takes_12 : decode cX9_takes 12 = .ok (.iaload, 1) := by decide +kernel
theorem dX9_takes_13 : decode cX9_takes 13 = .ok (.putfield 76, 3) := by decide +kernel
theorem dX9_takes_16 : decode cX9_takes 16 = .ok (.iconst 0, 1) := by decide +kernel
theorem dX9_takes_17 : decode cX9_takes 17 = .ok (.istore_n 3, 1) := by decide +kernel
theorem dX9_takes_18 : decode cX9_takes 18 = .ok (.iload_n 3, 1) := by decide +kernel
theorem dX9_takes_19 : decode cX9_takes 19 = .ok (.bipush 6, 2) := by decide +kernel
theorem dX9_takes_21 : decode cX9_takes 21 = .ok (.if_icmp .ge 36, 3) := by decide +kernel
theorem dX9_takes_24 : decode cX9_takes 24 = .ok (.aload_n 0, 1) := by decide +kernel
theorem dX9_takes_25 : decode cX9_takes 25 = .ok (.getfield 22, 3) := by decide +kernel
theorem dX9_takes_28 : decode cX9_takes 28 = .ok (.iload_n 3, 1) := by decide +kernel
theorem dX9_takes_29 : decode cX9_takes 29 = .ok (.aload_n 1, 1) := by decide +kernel
theorem dX9_takes_30 : decode cX9_takes 30 = .ok (.iload_n 2, 1) := by decide +kernel
theorem dX9_takes_31 : decode cX9_takes 31 = .ok (.iconst 2, 1) := by decide +kernel
theorem dX9_takes_32 : decode cX9_takes 32 = .ok (.iadd, 1) := by decide +kernel
theorem dX9_takes_33 : decode cX9_takes 33 = .ok (.iload_n 3, 1) := by decide +kernel
theorem dX9_takes_34 : decode cX9_takes 34 = .ok (.iadd, 1) := by decide +kernel
theorem dX9_takes_35 : decode cX9_takes 35 = .ok (.iaload, 1) := by decide +kernel
theorem dX9_takes_36 : decode cX9_takes 36 = .ok (.iastore, 1) := by decide +kernel
theorem dX9_takes_37 : decode cX9_takes 37 = .ok (.aload_n 0, 1) := by decide +kernel
theorem dX9_takes_38 : decode cX9_takes 38 = .ok (.getfield 19, 3) := by decide +kernel
theorem dX9_takes_41 : decode cX9_takes 41 = .ok (.iload_n 3, 1) := by decide +kernel
theorem dX9_takes_42 : decode cX9_takes 42 = .ok (.aload_n 1, 1) := by decide +kernel
theorem dX9_takes_43 : decode cX9_takes 43 = .ok (.iload_n 2, 1) := by decide +kernel
theorem dX9_takes_44 : decode cX9_takes 44 = .ok (.bipush 8, 2) := by decide +kernel
theorem dX9_takes_46 : decode cX9_takes 46 = .ok (.iadd, 1) := by decide +kernel
theorem dX9_takes_47 : decode cX9_takes 47 = .ok (.iload_n 3, 1) := by decide +kernel
theorem dX9_takes_48 : decode cX9_takes 48 = .ok (.iadd, 1) := by decide +kernel
theorem dX9_takes_49 : decode cX9_takes 49 = .ok (.iaload, 1) := by decide +kernel
theorem dX9_takes_50 : decode cX9_takes 50 = .ok (.iastore, 1) := by decide +kernel
theorem dX9_takes_51 : decode cX9_takes 51 = .ok (.iinc 3 1, 3) := by decide +kernel
theorem dX9_takes_54 : decode cX9_takes 54 = .ok (.goto (-36), 3) := by decide +kernel
theorem dX9_takes_57 : decode cX9_takes 57 = .ok (.iconst 0, 1) := by decide +kernel
theorem dX9_takes_58 : decode cX9_takes 58 = .ok (.istore_n 3, 1) := by decide +kernel
theorem dX9_takes_59 : decode cX9_takes 59 = .ok (.iload_n 3, 1) := by decide +kernel
theorem dX9_takes_60 : decode cX9_takes 60 = .ok (.bipush 8, 2) := by decide +kernel
theorem dX9_takes_62 : decode cX9_takes 62 = .ok (.if_icmp .ge 23, 3) := by decide +kernel
theorem dX9_takes_65 : decode cX9_takes 65 = .ok (.aload_n 0, 1) := by decide +kernel
theorem dX9_takes_66 : decode cX9_takes 66 = .ok (.getfield 25, 3) := by decide +kernel
theorem dX9_takes_69 : decode cX9_takes 69 = .ok (.iload_n 3, 1) := by decide +kernel
theorem dX9_takes_70 : decode cX9_takes 70 = .ok (.aload_n 1, 1) := by decide +kernel
theorem dX9_takes_71 : decode cX9_takes 71 = .ok (.iload_n 2, 1) := by decide +kernel
theorem dX9_takes_72 : decode cX9_takes 72 = .ok (.bipush 14, 2) := by decide +kernel
theorem dX9_takes_74 : decode cX9_takes 74 = .ok (.iadd, 1) := by decide +kernel
theorem dX9_takes_75 : decode cX9_takes 75 = .ok (.iload_n 3, 1) := by decide +kernel
theorem dX9_takes_76 : decode cX9_takes 76 = .ok (.iadd, 1) := by decide +kernel
theorem dX9_takes_77 : decode cX9_takes 77 = .ok (.iaload, 1) := by decide +kernel
theorem dX9_takes_78 : decode cX9_takes 78 = .ok (.iastore, 1) := by decide +kernel
theorem dX9_takes_79 : decode cX9_takes 79 = .ok (.iinc 3 1, 3) := by decide +kernel
theorem dX9_takes_82 : decode cX9_takes 82 = .ok (.goto (-23), 3) := by decide +kernel
theorem dX9_takes_85 : decode cX9_takes 85 = .ok (.return_, 1) := by decide +kernel
theorem dX9_notes_0 : decode cX9_notes 0 = .ok (.aload_n 0, 1) := by decide +kernel
theorem dX9_notes_1 : decode cX9_notes 1 = .ok (.getfield 88, 3) := by decide +kernel
theorem dX9_notes_4 : decode cX9_notes 4 = .ok (.bipush 8, 2) := by decide +kernel
theorem dX9_notes_6 : decode cX9_notes 6 = .ok (.if_icmp .ne 43, 3) := by decide +kernel
theorem dX9_notes_9 : decode cX9_notes 9 = .ok (.iconst 0, 1) := by decide +kernel
theorem dX9_notes_10 : decode cX9_notes 10 = .ok (.istore_n 1, 1) := by decide +kernel
theorem dX9_notes_11 : decode cX9_notes 11 = .ok (.iload_n 1, 1) := by decide +kernel
theorem dX9_notes_12 : decode cX9_notes 12 = .ok (.sipush 154, 3) := by decide +kernel
theorem dX9_notes_15 : decode cX9_notes 15 = .ok (.if_icmp .ge 24, 3) := by decide +kernel
theorem dX9_notes_18 : decode cX9_notes 18 = .ok (.aload_n 0, 1) := by decide +kernel
theorem dX9_notes_19 : decode cX9_notes 19 = .ok (.getfield 43, 3) := by decide +kernel
theorem dX9_notes_22 : decode cX9_notes 22 = .ok (.iload_n 1, 1) := by decide +kernel
theorem dX9_notes_23 : decode cX9_notes 23 = .ok (.aload_n 0, 1) := by decide +kernel
theorem dX9_notes_24 : decode cX9_notes 24 = .ok (.getfield 43, 3) := by decide +kernel
theorem dX9_notes_27 : decode cX9_notes 27 = .ok (.iload_n 1, 1) := by decide +kernel
theorem dX9_notes_28 : decode cX9_notes 28 = .ok (.bipush 22, 2) := by decide +kernel
theorem dX9_notes_30 : decode cX9_notes 30 = .ok (.iadd, 1) := by decide +kernel
theorem dX9_notes_31 : decode cX9_notes 31 = .ok (.iaload, 1) := by decide +kernel
theorem dX9_notes_32 : decode cX9_notes 32 = .ok (.iastore, 1) := by decide +kernel
theorem dX9_notes_33 : decode cX9_notes 33 = .ok (.iinc 1 1, 3) := by decide +kernel
theorem dX9_notes_36 : decode cX9_notes 36 = .ok (.goto (-25), 3) := by decide +kernel
theorem dX9_notes_39 : decode cX9_notes 39 = .ok (.aload_n 0, 1) := by decide +kernel
theorem dX9_notes_40 : decode cX9_notes 40 = .ok (.dup, 1) := by decide +kernel
theorem dX9_notes_41 : decode cX9_notes 41 = .ok (.getfield 88, 3) := by decide +kernel
theorem dX9_notes_44 : decode cX9_notes 44 = .ok (.iconst 1, 1) := by decide +kernel
theorem dX9_notes_45 : decode cX9_notes 45 = .ok (.isub, 1) := by decide +kernel
theorem dX9_notes_46 : decode cX9_notes 46 = .ok (.putfield 88, 3) := by decide +kernel
theorem dX9_notes_49 : decode cX9_notes 49 = .ok (.aload_n 0, 1) := by decide +kernel
theorem dX9_notes_50 : decode cX9_notes 50 = .ok (.aload_n 0, 1) := by decide +kernel
theorem dX9_notes_51 : decode cX9_notes 51 = .ok (.getfield 43, 3) := by decide +kernel
theorem dX9_notes_54 : decode cX9_notes 54 = .ok (.bipush 22, 2) := by decide +kernel
theorem dX9_notes_56 : decode cX9_notes 56 = .ok (.aload_n 0, 1) := by decide +kernel
theorem dX9_notes_57 : decode cX9_notes 57 = .ok (.getfield 88, 3) := by decide +kernel
theorem dX9_notes_60 : decode cX9_notes 60 = .ok (.imul, 1) := by decide +kernel
theorem dX9_notes_61 : decode cX9_notes 61 = .ok (.invokevirtual 207, 3) := by decide +kernel
theorem dX9_notes_64 : decode cX9_notes 64 = .ok (.aload_n 0, 1) := by decide +kernel
theorem dX9_notes_65 : decode cX9_notes 65 = .ok (.dup, 1) := by decide +kernel
theorem dX9_notes_66 : decode cX9_notes 66 = .ok (.getfield 88, 3) := by decide +kernel
theorem dX9_notes_69 : decode cX9_notes 69 = .ok (.iconst 1, 1) := by decide +kernel
theorem dX9_notes_70 : decode cX9_notes 70 = .ok (.iadd, 1) := by decide +kernel
theorem dX9_notes_71 : decode cX9_notes 71 = .ok (.putfield 88, 3) := by decide +kernel
theorem dX9_notes_74 : decode cX9_notes 74 = .ok (.return_, 1) := by decide +kernel
theorem dX9_learns_0 : decode cX9_learns 0 = .ok (.aload_n 0, 1) := by decide +kernel
theorem dX9_learns_1 : decode cX9_learns 1 = .ok (.getfield 22, 3) := by decide +kernel
theorem dX9_learns_4 : decode cX9_learns 4 = .ok (.iload_n 1, 1) := by decide +kernel
theorem dX9_learns_5 : decode cX9_learns 5 = .ok (.dup2, 1) := by decide +kernel
theorem dX9_learns_6 : decode cX9_learns 6 = .ok (.iaload, 1) := by decide +kernel
theorem dX9_learns_7 : decode cX9_learns 7 = .ok (.aload_n 0, 1) := by decide +kernel
theorem dX9_learns_8 : decode cX9_learns 8 = .ok (.iload_n 1, 1) := by decide +kernel
theorem dX9_learns_9 : decode cX9_learns 9 = .ok (.iload_n 2, 1) := by decide +kernel
theorem dX9_learns_10 : decode cX9_learns 10 = .ok (.aload_n 0, 1) := by decide +kernel
theorem dX9_learns_11 : decode cX9_learns 11 = .ok (.invokevirtual 210, 3) := by decide +kernel
theorem dX9_learns_14 : decode cX9_learns 14 = .ok (.invokevirtual 213, 3) := by decide +kernel
theorem dX9_learns_17 : decode cX9_learns 17 = .ok (.ifCond .eq 9, 3) := by decide +kernel
theorem dX9_learns_20 : decode cX9_learns 20 = .ok (.iconst 1, 1) := by decide +kernel
theorem dX9_learns_21 : decode cX9_learns 21 = .ok (.iload_n 2, 1) := by decide +kernel
theorem dX9_learns_22 : decode cX9_learns 22 = .ok (.ishl, 1) := by decide +kernel
theorem dX9_learns_23 : decode cX9_learns 23 = .ok (.goto 4, 3) := by decide +kernel
theorem dX9_learns_26 : decode cX9_learns 26 = .ok (.iconst 0, 1) := by decide +kernel
theorem dX9_learns_27 : decode cX9_learns 27 = .ok (.ior, 1) := by decide +kernel
theorem dX9_learns_28 : decode cX9_learns 28 = .ok (.iastore, 1) := by decide +kernel
theorem dX9_learns_29 : decode cX9_learns 29 = .ok (.return_, 1) := by decide +kernel
theorem dX9_meets_0 : decode cX9_meets 0 = .ok (.aload_n 0, 1) := by decide +kernel
theorem dX9_meets_1 : decode cX9_meets 1 = .ok (.iload_n 1, 1) := by decide +kernel
theorem dX9_meets_2 : decode cX9_meets 2 = .ok (.invokevirtual 216, 3) := by decide +kernel
theorem dX9_meets_5 : decode cX9_meets 5 = .ok (.ifCond .eq 10, 3) := by decide +kernel
theorem dX9_meets_8 : decode cX9_meets 8 = .ok (.iload_n 2, 1) := by decide +kernel
theorem dX9_meets_9 : decode cX9_meets 9 = .ok (.invokestatic 219, 3) := by decide +kernel
theorem dX9_meets_12 : decode cX9_meets 12 = .ok (.ifCond .ne 8, 3) := by decide +kernel
theorem dX9_meets_15 : decode cX9_meets 15 = .ok (.aload_n 0, 1) := by decide +kernel
theorem dX9_meets_16 : decode cX9_meets 16 = .ok (.invokevirtual 95, 3) := by decide +kernel
theorem dX9_meets_19 : decode cX9_meets 19 = .ok (.ireturn, 1) := by decide +kernel
theorem dX9_meets_20 : decode cX9_meets 20 = .ok (.aload_n 0, 1) := by decide +kernel
theorem dX9_meets_21 : decode cX9_meets 21 = .ok (.getfield 22, 3) := by decide +kernel
theorem dX9_meets_24 : decode cX9_meets 24 = .ok (.iload_n 1, 1) := by decide +kernel
theorem dX9_meets_25 : decode cX9_meets 25 = .ok (.iaload, 1) := by decide +kernel
theorem dX9_meets_26 : decode cX9_meets 26 = .ok (.iload_n 2, 1) := by decide +kernel
theorem dX9_meets_27 : decode cX9_meets 27 = .ok (.invokestatic 189, 3) := by decide +kernel
theorem dX9_meets_30 : decode cX9_meets 30 = .ok (.ifCond .ne 13, 3) := by decide +kernel
theorem dX9_meets_33 : decode cX9_meets 33 = .ok (.aload_n 0, 1) := by decide +kernel
theorem dX9_meets_34 : decode cX9_meets 34 = .ok (.getfield 73, 3) := by decide +kernel
theorem dX9_meets_37 : decode cX9_meets 37 = .ok (.sipush 9999, 3) := by decide +kernel
theorem dX9_meets_40 : decode cX9_meets 40 = .ok (.if_icmp .ne 8, 3) := by decide +kernel
theorem dX9_meets_43 : decode cX9_meets 43 = .ok (.aload_n 0, 1) := by decide +kernel
theorem dX9_meets_44 : decode cX9_meets 44 = .ok (.invokevirtual 222, 3) := by decide +kernel
theorem dX9_meets_47 : decode cX9_meets 47 = .ok (.ireturn, 1) := by decide +kernel
theorem dX9_meets_48 : decode cX9_meets 48 = .ok (.aload_n 0, 1) := by decide +kernel
theorem dX9_meets_49 : decode cX9_meets 49 = .ok (.invokevirtual 225, 3) := by decide +kernel
theorem dX9_meets_52 : decode cX9_meets 52 = .ok (.aload_n 0, 1) := by decide +kernel
theorem dX9_meets_53 : decode cX9_meets 53 = .ok (.iload_n 1, 1) := by decide +kernel
theorem dX9_meets_54 : decode cX9_meets 54 = .ok (.iload_n 2, 1) := by decide +kernel
theorem dX9_meets_55 : decode cX9_meets 55 = .ok (.invokevirtual 228, 3) := by decide +kernel
theorem dX9_meets_58 : decode cX9_meets 58 = .ok (.aload_n 0, 1) := by decide +kernel
theorem dX9_meets_59 : decode cX9_meets 59 = .ok (.invokevirtual 204, 3) := by decide +kernel
theorem dX9_meets_62 : decode cX9_meets 62 = .ok (.aload_n 0, 1) := by decide +kernel
theorem dX9_meets_63 : decode cX9_meets 63 = .ok (.getfield 22, 3) := by decide +kernel
theorem dX9_meets_66 : decode cX9_meets 66 = .ok (.iload_n 1, 1) := by decide +kernel
theorem dX9_meets_67 : decode cX9_meets 67 = .ok (.iaload, 1) := by decide +kernel
theorem dX9_meets_68 : decode cX9_meets 68 = .ok (.iload_n 2, 1) := by decide +kernel
theorem dX9_meets_69 : decode cX9_meets 69 = .ok (.ishr, 1) := by decide +kernel
theorem dX9_meets_70 : decode cX9_meets 70 = .ok (.iconst 1, 1) := by decide +kernel
theorem dX9_meets_71 : decode cX9_meets 71 = .ok (.iand, 1) := by decide +kernel
theorem dX9_meets_72 : decode cX9_meets 72 = .ok (.ireturn, 1) := by decide +kernel
theorem dX9_tenBad_0 : decode cX9_tenBad 0 = .ok (.aload_n 0, 1) := by decide +kernel
theorem dX9_tenBad_1 : decode cX9_tenBad 1 = .ok (.invokevirtual 95, 3) := by decide +kernel
theorem dX9_tenBad_4 : decode cX9_tenBad 4 = .ok (.pop, 1) := by decide +kernel
theorem dX9_tenBad_5 : decode cX9_tenBad 5 = .ok (.bipush (-10), 2) := by decide +kernel
theorem dX9_tenBad_7 : decode cX9_tenBad 7 = .ok (.ireturn, 1) := by decide +kernel
theorem dX9_goes_0 : decode cX9_goes 0 = .ok (.aload_n 0, 1) := by decide +kernel
theorem dX9_goes_1 : decode cX9_goes 1 = .ok (.iload_n 1, 1) := by decide +kernel
theorem dX9_goes_2 : decode cX9_goes 2 = .ok (.invokevirtual 216, 3) := by decide +kernel
theorem dX9_goes_5 : decode cX9_goes 5 = .ok (.ifCond .eq 12, 3) := by decide +kernel
theorem dX9_goes_8 : decode cX9_goes 8 = .ok (.iload_n 2, 1) := by decide +kernel
theorem dX9_goes_9 : decode cX9_goes 9 = .ok (.iconst 0, 1) := by decide +kernel
theorem dX9_goes_10 : decode cX9_goes 10 = .ok (.iconst 1, 1) := by decide +kernel
theorem dX9_goes_11 : decode cX9_goes 11 = .ok (.invokestatic 91, 3) := by decide +kernel
theorem dX9_goes_14 : decode cX9_goes 14 = .ok (.ifCond .ne 8, 3) := by decide +kernel
theorem dX9_goes_17 : decode cX9_goes 17 = .ok (.aload_n 0, 1) := by decide +kernel
theorem dX9_goes_18 : decode cX9_goes 18 = .ok (.invokevirtual 232, 3) := by decide +kernel
theorem dX9_goes_21 : decode cX9_goes 21 = .ok (.ireturn, 1) := by decide +kernel
theorem dX9_goes_22 : decode cX9_goes 22 = .ok (.aload_n 0, 1) := by decide +kernel
theorem dX9_goes_23 : decode cX9_goes 23 = .ok (.getfield 19, 3) := by decide +kernel
theorem dX9_goes_26 : decode cX9_goes 26 = .ok (.iload_n 1, 1) := by decide +kernel
theorem dX9_goes_27 : decode cX9_goes 27 = .ok (.iaload, 1) := by decide +kernel
theorem dX9_goes_28 : decode cX9_goes 28 = .ok (.istore_n 3, 1) := by decide +kernel
theorem dX9_goes_29 : decode cX9_goes 29 = .ok (.iload_n 2, 1) := by decide +kernel
theorem dX9_goes_30 : decode cX9_goes 30 = .ok (.iconst 1, 1) := by decide +kernel
theorem dX9_goes_31 : decode cX9_goes 31 = .ok (.if_icmp .ne 9, 3) := by decide +kernel
theorem dX9_goes_34 : decode cX9_goes 34 = .ok (.iload_n 3, 1) := by decide +kernel
theorem dX9_goes_35 : decode cX9_goes 35 = .ok (.bipush 8, 2) := by decide +kernel
theorem dX9_goes_37 : decode cX9_goes 37 = .ok (.if_icmp .eq 22, 3) := by decide +kernel
theorem dX9_goes_40 : decode cX9_goes 40 = .ok (.iload_n 2, 1) := by decide +kernel
theorem dX9_goes_41 : decode cX9_goes 41 = .ok (.ifCond .ne 8, 3) := by decide +kernel
theorem dX9_goes_44 : decode cX9_goes 44 = .ok (.iload_n 3, 1) := by decide +kernel
theorem dX9_goes_45 : decode cX9_goes 45 = .ok (.iconst (-1), 1) := by decide +kernel
theorem dX9_goes_46 : decode cX9_goes 46 = .ok (.if_icmp .eq 13, 3) := by decide +kernel
theorem dX9_goes_49 : decode cX9_goes 49 = .ok (.aload_n 0, 1) := by decide +kernel
theorem dX9_goes_50 : decode cX9_goes 50 = .ok (.getfield 73, 3) := by decide +kernel
theorem dX9_goes_53 : decode cX9_goes 53 = .ok (.sipush 9999, 3) := by decide +kernel
theorem dX9_goes_56 : decode cX9_goes 56 = .ok (.if_icmp .ne 8, 3) := by decide +kernel
theorem dX9_goes_59 : decode cX9_goes 59 = .ok (.aload_n 0, 1) := by decide +kernel
theorem dX9_goes_60 : decode cX9_goes 60 = .ok (.invokevirtual 222, 3) := by decide +kernel
theorem dX9_goes_63 : decode cX9_goes 63 = .ok (.ireturn, 1) := by decide +kernel
theorem dX9_goes_64 : decode cX9_goes 64 = .ok (.aload_n 0, 1) := by decide +kernel
theorem dX9_goes_65 : decode cX9_goes 65 = .ok (.invokevirtual 225, 3) := by decide +kernel
theorem dX9_goes_68 : decode cX9_goes 68 = .ok (.iload_n 2, 1) := by decide +kernel
theorem dX9_goes_69 : decode cX9_goes 69 = .ok (.ifCond .eq 24, 3) := by decide +kernel
theorem dX9_goes_72 : decode cX9_goes 72 = .ok (.iload_n 3, 1) := by decide +kernel
theorem dX9_goes_73 : decode cX9_goes 73 = .ok (.bipush 7, 2) := by decide +kernel
theorem dX9_goes_75 : decode cX9_goes 75 = .ok (.if_icmp .eq 18, 3) := by decide +kernel
theorem dX9_goes_78 : decode cX9_goes 78 = .ok (.aload_n 0, 1) := by decide +kernel
theorem dX9_goes_79 : decode cX9_goes 79 = .ok (.getfield 22, 3) := by decide +kernel
theorem dX9_goes_82 : decode cX9_goes 82 = .ok (.iload_n 1, 1) := by decide +kernel
theorem dX9_goes_83 : decode cX9_goes 83 = .ok (.iaload, 1) := by decide +kernel
theorem dX9_goes_84 : decode cX9_goes 84 = .ok (.iload_n 3, 1) := by decide +kernel
theorem dX9_goes_85 : decode cX9_goes 85 = .ok (.iconst 1, 1) := by decide +kernel
theorem dX9_goes_86 : decode cX9_goes 86 = .ok (.iadd, 1) := by decide +kernel
theorem dX9_goes_87 : decode cX9_goes 87 = .ok (.invokestatic 189, 3) := by decide +kernel
theorem dX9_goes_90 : decode cX9_goes 90 = .ok (.ifCond .eq 7, 3) := by decide +kernel
theorem dX9_goes_93 : decode cX9_goes 93 = .ok (.iconst 1, 1) := by decide +kernel
theorem dX9_goes_94 : decode cX9_goes 94 = .ok (.goto 4, 3) := by decide +kernel
theorem dX9_goes_97 : decode cX9_goes 97 = .ok (.iconst 0, 1) := by decide +kernel
theorem dX9_goes_98 : decode cX9_goes 98 = .ok (.istore 4, 2) := by decide +kernel
theorem dX9_goes_100 : decode cX9_goes 100 = .ok (.aload_n 0, 1) := by decide +kernel
theorem dX9_goes_101 : decode cX9_goes 101 = .ok (.getfield 19, 3) := by decide +kernel
theorem dX9_goes_104 : decode cX9_goes 104 = .ok (.iload_n 1, 1) := by decide +kernel
theorem dX9_goes_105 : decode cX9_goes 105 = .ok (.iload 4, 2) := by decide +kernel
theorem dX9_goes_107 : decode cX9_goes 107 = .ok (.ifCond .eq 20, 3) := by decide +kernel
theorem dX9_goes_110 : decode cX9_goes 110 = .ok (.iload_n 2, 1) := by decide +kernel
theorem dX9_goes_111 : decode cX9_goes 111 = .ok (.iconst 1, 1) := by decide +kernel
theorem dX9_goes_112 : decode cX9_goes 112 = .ok (.if_icmp .ne 9, 3) := by decide +kernel
theorem dX9_goes_115 : decode cX9_goes 115 = .ok (.iload_n 3, 1) := by decide +kernel
theorem dX9_goes_116 : decode cX9_goes 116 = .ok (.iconst 1, 1) := by decide +kernel
theorem dX9_goes_117 : decode cX9_goes 117 = .ok (.iadd, 1) := by decide +kernel
theorem dX9_goes_118 : decode cX9_goes 118 = .ok (.goto 10, 3) := by decide +kernel
theorem dX9_goes_121 : decode cX9_goes 121 = .ok (.iload_n 3, 1) := by decide +kernel
theorem dX9_goes_122 : decode cX9_goes 122 = .ok (.iconst 1, 1) := by decide +kernel
theorem dX9_goes_123 : decode cX9_goes 123 = .ok (.isub, 1) := by decide +kernel
theorem dX9_goes_124 : decode cX9_goes 124 = .ok (.goto 4, 3) := by decide +kernel
theorem dX9_goes_127 : decode cX9_goes 127 = .ok (.iload_n 3, 1) := by decide +kernel
theorem dX9_goes_128 : decode cX9_goes 128 = .ok (.iastore, 1) := by decide +kernel
theorem dX9_goes_129 : decode cX9_goes 129 = .ok (.aload_n 0, 1) := by decide +kernel
theorem dX9_goes_130 : decode cX9_goes 130 = .ok (.invokevirtual 204, 3) := by decide +kernel
theorem dX9_goes_133 : decode cX9_goes 133 = .ok (.aload_n 0, 1) := by decide +kernel
theorem dX9_goes_134 : decode cX9_goes 134 = .ok (.getfield 19, 3) := by decide +kernel
theorem dX9_goes_137 : decode cX9_goes 137 = .ok (.iload_n 1, 1) := by decide +kernel
theorem dX9_goes_138 : decode cX9_goes 138 = .ok (.iaload, 1) := by decide +kernel
theorem dX9_goes_139 : decode cX9_goes 139 = .ok (.ireturn, 1) := by decide +kernel
theorem dX9_waits_0 : decode cX9_waits 0 = .ok (.iload_n 1, 1) := by decide +kernel
theorem dX9_waits_1 : decode cX9_waits 1 = .ok (.iconst 1, 1) := by decide +kernel
theorem dX9_waits_2 : decode cX9_waits 2 = .ok (.bipush 60, 2) := by decide +kernel
theorem dX9_waits_4 : decode cX9_waits 4 = .ok (.invokestatic 91, 3) := by decide +kernel
theorem dX9_waits_7 : decode cX9_waits 7 = .ok (.ifCond .ne 8, 3) := by decide +kernel
theorem dX9_waits_10 : decode cX9_waits 10 = .ok (.aload_n 0, 1) := by decide +kernel
theorem dX9_waits_11 : decode cX9_waits 11 = .ok (.invokevirtual 95, 3) := by decide +kernel
theorem dX9_waits_14 : decode cX9_waits 14 = .ok (.ireturn, 1) := by decide +kernel
theorem dX9_waits_15 : decode cX9_waits 15 = .ok (.aload_n 0, 1) := by decide +kernel
theorem dX9_waits_16 : decode cX9_waits 16 = .ok (.invokevirtual 225, 3) := by decide +kernel
theorem dX9_waits_19 : decode cX9_waits 19 = .ok (.iconst 0, 1) := by decide +kernel
theorem dX9_waits_20 : decode cX9_waits 20 = .ok (.istore_n 2, 1) := by decide +kernel
theorem dX9_waits_21 : decode cX9_waits 21 = .ok (.iload_n 2, 1) := by decide +kernel
theorem dX9_waits_22 : decode cX9_waits 22 = .ok (.iload_n 1, 1) := by decide +kernel
theorem dX9_waits_23 : decode cX9_waits 23 = .ok (.if_icmp .ge 23, 3) := by decide +kernel
theorem dX9_waits_26 : decode cX9_waits 26 = .ok (.aload_n 0, 1) := by decide +kernel
theorem dX9_waits_27 : decode cX9_waits 27 = .ok (.getfield 73, 3) := by decide +kernel
theorem dX9_waits_30 : decode cX9_waits 30 = .ok (.sipush 9999, 3) := by decide +kernel
theorem dX9_waits_33 : decode cX9_waits 33 = .ok (.if_icmp .ge 13, 3) := by decide +kernel
theorem dX9_waits_36 : decode cX9_waits 36 = .ok (.aload_n 0, 1) := by decide +kernel
theorem dX9_waits_37 : decode cX9_waits 37 = .ok (.invokevirtual 204, 3) := by decide +kernel
theorem dX9_waits_40 : decode cX9_waits 40 = .ok (.iinc 2 1, 3) := by decide +kernel
theorem dX9_waits_43 : decode cX9_waits 43 = .ok (.goto (-22), 3) := by decide +kernel
theorem dX9_waits_46 : decode cX9_waits 46 = .ok (.aload_n 0, 1) := by decide +kernel
theorem dX9_waits_47 : decode cX9_waits 47 = .ok (.invokevirtual 235, 3) := by decide +kernel
theorem dX9_waits_50 : decode cX9_waits 50 = .ok (.ireturn, 1) := by decide +kernel
theorem dX9_carpet_0 : decode cX9_carpet 0 = .ok (.iload_n 1, 1) := by decide +kernel
theorem dX9_carpet_1 : decode cX9_carpet 1 = .ok (.iconst 0, 1) := by decide +kernel
theorem dX9_carpet_2 : decode cX9_carpet 2 = .ok (.bipush 6, 2) := by decide +kernel
theorem dX9_carpet_4 : decode cX9_carpet 4 = .ok (.invokestatic 91, 3) := by decide +kernel
theorem dX9_carpet_7 : decode cX9_carpet 7 = .ok (.ifCond .eq 12, 3) := by decide +kernel
theorem dX9_carpet_10 : decode cX9_carpet 10 = .ok (.iload_n 2, 1) := by decide +kernel
theorem dX9_carpet_11 : decode cX9_carpet 11 = .ok (.iconst 0, 1) := by decide +kernel
theorem dX9_carpet_12 : decode cX9_carpet 12 = .ok (.iconst 1, 1) := by decide +kernel
theorem dX9_carpet_13 : decode cX9_carpet 13 = .ok (.invokestatic 91, 3) := by decide +kernel
theorem dX9_carpet_16 : decode cX9_carpet 16 = .ok (.ifCond .ne 8, 3) := by decide +kernel
theorem dX9_carpet_19 : decode cX9_carpet 19 = .ok (.aload_n 0, 1) := by decide +kernel
theorem dX9_carpet_20 : decode cX9_carpet 20 = .ok (.invokevirtual 95, 3) := by decide +kernel
theorem dX9_carpet_23 : decode cX9_carpet 23 = .ok (.ireturn, 1) := by decide +kernel
theorem dX9_carpet_24 : decode cX9_carpet 24 = .ok (.aload_n 0, 1) := by decide +kernel
theorem dX9_carpet_25 : decode cX9_carpet 25 = .ok (.getfield 76, 3) := by decide +kernel
theorem dX9_carpet_28 : decode cX9_carpet 28 = .ok (.iload_n 1, 1) := by decide +kernel
theorem dX9_carpet_29 : decode cX9_carpet 29 = .ok (.ishr, 1) := by decide +kernel
theorem dX9_carpet_30 : decode cX9_carpet 30 = .ok (.iconst 1, 1) := by decide +kernel
theorem dX9_carpet_31 : decode cX9_carpet 31 = .ok (.iand, 1) := by decide +kernel
theorem dX9_carpet_32 : decode cX9_carpet 32 = .ok (.iload_n 2, 1) := by decide +kernel
theorem dX9_carpet_33 : decode cX9_carpet 33 = .ok (.if_icmp .ne 8, 3) := by decide +kernel
theorem dX9_carpet_36 : decode cX9_carpet 36 = .ok (.aload_n 0, 1) := by decide +kernel
theorem dX9_carpet_37 : decode cX9_carpet 37 = .ok (.invokevirtual 222, 3) := by decide +kernel
theorem dX9_carpet_40 : decode cX9_carpet 40 = .ok (.ireturn, 1) := by decide +kernel
theorem dX9_carpet_41 : decode cX9_carpet 41 = .ok (.aload_n 0, 1) := by decide +kernel
theorem dX9_carpet_42 : decode cX9_carpet 42 = .ok (.invokevirtual 225, 3) := by decide +kernel
theorem dX9_carpet_45 : decode cX9_carpet 45 = .ok (.aload_n 0, 1) := by decide +kernel
theorem dX9_carpet_46 : decode cX9_carpet 46 = .ok (.dup, 1) := by decide +kernel
theorem dX9_carpet_47 : decode cX9_carpet 47 = .ok (.getfield 76, 3) := by decide +kernel
theorem dX9_carpet_50 : decode cX9_carpet 50 = .ok (.iconst 1, 1) := by decide +kernel
theorem dX9_carpet_51 : decode cX9_carpet 51 = .ok (.iload_n 1, 1) := by decide +kernel
theorem dX9_carpet_52 : decode cX9_carpet 52 = .ok (.ishl, 1) := by decide +kernel
theorem dX9_carpet_53 : decode cX9_carpet 53 = .ok (.ixor, 1) := by decide +kernel
theorem dX9_carpet_54 : decode cX9_carpet 54 = .ok (.putfield 76, 3) := by decide +kernel
theorem dX9_carpet_57 : decode cX9_carpet 57 = .ok (.iconst 1, 1) := by decide +kernel
theorem dX9_carpet_58 : decode cX9_carpet 58 = .ok (.iload_n 2, 1) := by decide +kernel
theorem dX9_carpet_59 : decode cX9_carpet 59 = .ok (.isub, 1) := by decide +kernel
theorem dX9_carpet_60 : decode cX9_carpet 60 = .ok (.ireturn, 1) := by decide +kernel
theorem dX9_whoKnows_0 : decode cX9_whoKnows 0 = .ok (.iconst 0, 1) := by decide +kernel
theorem dX9_whoKnows_1 : decode cX9_whoKnows 1 = .ok (.istore_n 2, 1) := by decide +kernel
theorem dX9_whoKnows_2 : decode cX9_whoKnows 2 = .ok (.iconst 0, 1) := by decide +kernel
theorem dX9_whoKnows_3 : decode cX9_whoKnows 3 = .ok (.istore_n 3, 1) := by decide +kernel
theorem dX9_whoKnows_4 : decode cX9_whoKnows 4 = .ok (.iload_n 3, 1) := by decide +kernel
theorem dX9_whoKnows_5 : decode cX9_whoKnows 5 = .ok (.aload_n 0, 1) := by decide +kernel
theorem dX9_whoKnows_6 : decode cX9_whoKnows 6 = .ok (.getfield 69, 3) := by decide +kernel
theorem dX9_whoKnows_9 : decode cX9_whoKnows 9 = .ok (.if_icmp .ge 32, 3) := by decide +kernel
theorem dX9_whoKnows_12 : decode cX9_whoKnows 12 = .ok (.iload_n 2, 1) := by decide +kernel
theorem dX9_whoKnows_13 : decode cX9_whoKnows 13 = .ok (.aload_n 0, 1) := by decide +kernel
theorem dX9_whoKnows_14 : decode cX9_whoKnows 14 = .ok (.getfield 22, 3) := by decide +kernel
theorem dX9_whoKnows_17 : decode cX9_whoKnows 17 = .ok (.iload_n 3, 1) := by decide +kernel
theorem dX9_whoKnows_18 : decode cX9_whoKnows 18 = .ok (.iaload, 1) := by decide +kernel
theorem dX9_whoKnows_19 : decode cX9_whoKnows 19 = .ok (.iload_n 1, 1) := by decide +kernel
theorem dX9_whoKnows_20 : decode cX9_whoKnows 20 = .ok (.invokestatic 189, 3) := by decide +kernel
theorem dX9_whoKnows_23 : decode cX9_whoKnows 23 = .ok (.ifCond .eq 9, 3) := by decide +kernel
theorem dX9_whoKnows_26 : decode cX9_whoKnows 26 = .ok (.iconst 1, 1) := by decide +kernel
theorem dX9_whoKnows_27 : decode cX9_whoKnows 27 = .ok (.iload_n 3, 1) := by decide +kernel
theorem dX9_whoKnows_28 : decode cX9_whoKnows 28 = .ok (.ishl, 1) := by decide +kernel
theorem dX9_whoKnows_29 : decode cX9_whoKnows 29 = .ok (.goto 4, 3) := by decide +kernel
theorem dX9_whoKnows_32 : decode cX9_whoKnows 32 = .ok (.iconst 0, 1) := by decide +kernel
theorem dX9_whoKnows_33 : decode cX9_whoKnows 33 = .ok (.ior, 1) := by decide +kernel
theorem dX9_whoKnows_34 : decode cX9_whoKnows 34 = .ok (.istore_n 2, 1) := by decide +kernel
theorem dX9_whoKnows_35 : decode cX9_whoKnows 35 = .ok (.iinc 3 1, 3) := by decide +kernel
theorem dX9_whoKnows_38 : decode cX9_whoKnows 38 = .ok (.goto (-34), 3) := by decide +kernel
theorem dX9_whoKnows_41 : decode cX9_whoKnows 41 = .ok (.iload_n 2, 1) := by decide +kernel
theorem dX9_whoKnows_42 : decode cX9_whoKnows 42 = .ok (.ireturn, 1) := by decide +kernel
theorem dX9_step_0 : decode cX9_step 0 = .ok (.iload_n 1, 1) := by decide +kernel
theorem dX9_step_1 : decode cX9_step 1 = .ok (.invokestatic 219, 3) := by decide +kernel
theorem dX9_step_4 : decode cX9_step 4 = .ok (.ifCond .eq 12, 3) := by decide +kernel
theorem dX9_step_7 : decode cX9_step 7 = .ok (.iload_n 2, 1) := by decide +kernel
theorem dX9_step_8 : decode cX9_step 8 = .ok (.iconst 0, 1) := by decide +kernel
theorem dX9_step_9 : decode cX9_step 9 = .ok (.iconst 5, 1) := by decide +kernel
theorem dX9_step_10 : decode cX9_step 10 = .ok (.invokestatic 91, 3) := by decide +kernel
theorem dX9_step_13 : decode cX9_step 13 = .ok (.ifCond .ne 8, 3) := by decide +kernel
theorem dX9_step_16 : decode cX9_step 16 = .ok (.aload_n 0, 1) := by decide +kernel
theorem dX9_step_17 : decode cX9_step 17 = .ok (.invokevirtual 95, 3) := by decide +kernel
theorem dX9_step_20 : decode cX9_step 20 = .ok (.ireturn, 1) := by decide +kernel
theorem dX9_step_21 : decode cX9_step 21 = .ok (.aload_n 0, 1) := by decide +kernel
theorem dX9_step_22 : decode cX9_step 22 = .ok (.invokevirtual 225, 3) := by decide +kernel
theorem dX9_step_25 : decode cX9_step 25 = .ok (.aload_n 0, 1) := by decide +kernel
theorem dX9_step_26 : decode cX9_step 26 = .ok (.iload_n 1, 1) := by decide +kernel
theorem dX9_step_27 : decode cX9_step 27 = .ok (.invokevirtual 238, 3) := by decide +kernel
theorem dX9_step_30 : decode cX9_step 30 = .ok (.invokestatic 201, 3) := by decide +kernel
theorem dX9_step_33 : decode cX9_step 33 = .ok (.istore_n 3, 1) := by decide +kernel
theorem dX9_step_34 : decode cX9_step 34 = .ok (.aload_n 0, 1) := by decide +kernel
theorem dX9_step_35 : decode cX9_step 35 = .ok (.getfield 25, 3) := by decide +kernel
theorem dX9_step_38 : decode cX9_step 38 = .ok (.iload_n 1, 1) := by decide +kernel
theorem dX9_step_39 : decode cX9_step 39 = .ok (.iload_n 2, 1) := by decide +kernel
theorem dX9_step_40 : decode cX9_step 40 = .ok (.iastore, 1) := by decide +kernel
theorem dX9_step_41 : decode cX9_step 41 = .ok (.iconst 0, 1) := by decide +kernel
theorem dX9_step_42 : decode cX9_step 42 = .ok (.istore 4, 2) := by decide +kernel
theorem dX9_step_44 : decode cX9_step 44 = .ok (.iload 4, 2) := by decide +kernel
theorem dX9_step_46 : decode cX9_step 46 = .ok (.aload_n 0, 1) := by decide +kernel
theorem dX9_step_47 : decode cX9_step 47 = .ok (.getfield 69, 3) := by decide +kernel
theorem dX9_step_50 : decode cX9_step 50 = .ok (.if_icmp .ge 24, 3) := by decide +kernel
theorem dX9_step_53 : decode cX9_step 53 = .ok (.aload_n 0, 1) := by decide +kernel
theorem dX9_step_54 : decode cX9_step 54 = .ok (.getfield 22, 3) := by decide +kernel
theorem dX9_step_57 : decode cX9_step 57 = .ok (.iload 4, 2) := by decide +kernel
theorem dX9_step_59 : decode cX9_step 59 = .ok (.dup2, 1) := by decide +kernel
theorem dX9_step_60 : decode cX9_step 60 = .ok (.iaload, 1) := by decide +kernel
theorem dX9_step_61 : decode cX9_step 61 = .ok (.iconst 1, 1) := by decide +kernel
theorem dX9_step_62 : decode cX9_step 62 = .ok (.iload_n 1, 1) := by decide +kernel
theorem dX9_step_63 : decode cX9_step 63 = .ok (.ishl, 1) := by decide +kernel
theorem dX9_step_64 : decode cX9_step 64 = .ok (.iconst (-1), 1) := by decide +kernel
theorem dX9_step_65 : decode cX9_step 65 = .ok (.ixor, 1) := by decide +kernel
theorem dX9_step_66 : decode cX9_step 66 = .ok (.iand, 1) := by decide +kernel
theorem dX9_step_67 : decode cX9_step 67 = .ok (.iastore, 1) := by decide +kernel
theorem dX9_step_68 : decode cX9_step 68 = .ok (.iinc 4 1, 3) := by decide +kernel
theorem dX9_step_71 : decode cX9_step 71 = .ok (.goto (-27), 3) := by decide +kernel
theorem dX9_step_74 : decode cX9_step 74 = .ok (.iload_n 3, 1) := by decide +kernel
theorem dX9_step_75 : decode cX9_step 75 = .ok (.ireturn, 1) := by decide +kernel
theorem dX9_undo_0 : decode cX9_undo 0 = .ok (.aload_n 0, 1) := by decide +kernel
theorem dX9_undo_1 : decode cX9_undo 1 = .ok (.getfield 88, 3) := by decide +kernel
theorem dX9_undo_4 : decode cX9_undo 4 = .ok (.ifCond .ne 8, 3) := by decide +kernel
theorem dX9_undo_7 : decode cX9_undo 7 = .ok (.aload_n 0, 1) := by decide +kernel
theorem dX9_undo_8 : decode cX9_undo 8 = .ok (.invokevirtual 222, 3) := by decide +kernel
theorem dX9_undo_11 : decode cX9_undo 11 = .ok (.ireturn, 1) := by decide +kernel
theorem dX9_undo_12 : decode cX9_undo 12 = .ok (.aload_n 0, 1) := by decide +kernel
theorem dX9_undo_13 : decode cX9_undo 13 = .ok (.dup, 1) := by decide +kernel
theorem dX9_undo_14 : decode cX9_undo 14 = .ok (.getfield 88, 3) := by decide +kernel
theorem dX9_undo_17 : decode cX9_undo 17 = .ok (.iconst 1, 1) := by decide +kernel
theorem dX9_undo_18 : decode cX9_undo 18 = .ok (.isub, 1) := by decide +kernel
theorem dX9_undo_19 : decode cX9_undo 19 = .ok (.putfield 88, 3) := by decide +kernel
theorem dX9_undo_22 : decode cX9_undo 22 = .ok (.aload_n 0, 1) := by decide +kernel
theorem dX9_undo_23 : decode cX9_undo 23 = .ok (.aload_n 0, 1) := by decide +kernel
theorem dX9_undo_24 : decode cX9_undo 24 = .ok (.getfield 43, 3) := by decide +kernel
theorem dX9_undo_27 : decode cX9_undo 27 = .ok (.bipush 22, 2) := by decide +kernel
theorem dX9_undo_29 : decode cX9_undo 29 = .ok (.aload_n 0, 1) := by decide +kernel
theorem dX9_undo_30 : decode cX9_undo 30 = .ok (.getfield 88, 3) := by decide +kernel
theorem dX9_undo_33 : decode cX9_undo 33 = .ok (.imul, 1) := by decide +kernel
theorem dX9_undo_34 : decode cX9_undo 34 = .ok (.invokevirtual 241, 3) := by decide +kernel
theorem dX9_undo_37 : decode cX9_undo 37 = .ok (.aload_n 0, 1) := by decide +kernel
theorem dX9_undo_38 : decode cX9_undo 38 = .ok (.getfield 73, 3) := by decide +kernel
theorem dX9_undo_41 : decode cX9_undo 41 = .ok (.ireturn, 1) := by decide +kernel
theorem dX9_of_0 : decode cX9_of 0 = .ok (.aload_n 0, 1) := by decide +kernel
theorem dX9_of_1 : decode cX9_of 1 = .ok (.iload_n 1, 1) := by decide +kernel
theorem dX9_of_2 : decode cX9_of 2 = .ok (.invokevirtual 216, 3) := by decide +kernel
theorem dX9_of_5 : decode cX9_of 5 = .ok (.ifCond .eq 12, 3) := by decide +kernel
theorem dX9_of_8 : decode cX9_of 8 = .ok (.iload_n 2, 1) := by decide +kernel
theorem dX9_of_9 : decode cX9_of 9 = .ok (.iconst 0, 1) := by decide +kernel
theorem dX9_of_10 : decode cX9_of 10 = .ok (.iconst 3, 1) := by decide +kernel
theorem dX9_of_11 : decode cX9_of 11 = .ok (.invokestatic 91, 3) := by decide +kernel
theorem dX9_of_14 : decode cX9_of 14 = .ok (.ifCond .ne 8, 3) := by decide +kernel
theorem dX9_of_17 : decode cX9_of 17 = .ok (.aload_n 0, 1) := by decide +kernel
theorem dX9_of_18 : decode cX9_of 18 = .ok (.invokevirtual 232, 3) := by decide +kernel
theorem dX9_of_21 : decode cX9_of 21 = .ok (.ireturn, 1) := by decide +kernel
theorem dX9_of_22 : decode cX9_of 22 = .ok (.iload_n 2, 1) := by decide +kernel
theorem dX9_of_23 : decode cX9_of 23 = .ok (.ifCond .ne 12, 3) := by decide +kernel
theorem dX9_of_26 : decode cX9_of 26 = .ok (.aload_n 0, 1) := by decide +kernel
theorem dX9_of_27 : decode cX9_of 27 = .ok (.getfield 13, 3) := by decide +kernel
theorem dX9_of_30 : decode cX9_of 30 = .ok (.iload_n 1, 1) := by decide +kernel
theorem dX9_of_31 : decode cX9_of 31 = .ok (.iaload, 1) := by decide +kernel
theorem dX9_of_32 : decode cX9_of 32 = .ok (.goto 37, 3) := by decide +kernel
theorem dX9_of_35 : decode cX9_of 35 = .ok (.iload_n 2, 1) := by decide +kernel
theorem dX9_of_36 : decode cX9_of 36 = .ok (.iconst 1, 1) := by decide +kernel
theorem dX9_of_37 : decode cX9_of 37 = .ok (.if_icmp .ne 12, 3) := by decide +kernel
theorem dX9_of_40 : decode cX9_of 40 = .ok (.aload_n 0, 1) := by decide +kernel
theorem dX9_of_41 : decode cX9_of 41 = .ok (.getfield 16, 3) := by decide +kernel
theorem dX9_of_44 : decode cX9_of 44 = .ok (.iload_n 1, 1) := by decide +kernel
theorem dX9_of_45 : decode cX9_of 45 = .ok (.iaload, 1) := by decide +kernel
theorem dX9_of_46 : decode cX9_of 46 = .ok (.goto 23, 3) := by decide +kernel
theorem dX9_of_49 : decode cX9_of 49 = .ok (.iload_n 2, 1) := by decide +kernel
theorem dX9_of_50 : decode cX9_of 50 = .ok (.iconst 2, 1) := by decide +kernel
theorem dX9_of_51 : decode cX9_of 51 = .ok (.if_icmp .ne 12, 3) := by decide +kernel
theorem dX9_of_54 : decode cX9_of 54 = .ok (.aload_n 0, 1) := by decide +kernel
theorem dX9_of_55 : decode cX9_of 55 = .ok (.getfield 19, 3) := by decide +kernel
theorem dX9_of_58 : decode cX9_of 58 = .ok (.iload_n 1, 1) := by decide +kernel
theorem dX9_of_59 : decode cX9_of 59 = .ok (.iaload, 1) := by decide +kernel
theorem dX9_of_60 : decode cX9_of 60 = .ok (.goto 9, 3) := by decide +kernel
theorem dX9_of_63 : decode cX9_of 63 = .ok (.aload_n 0, 1) := by decide +kernel
theorem dX9_of_64 : decode cX9_of 64 = .ok (.getfield 22, 3) := by decide +kernel
theorem dX9_of_67 : decode cX9_of 67 = .ok (.iload_n 1, 1) := by decide +kernel
theorem dX9_of_68 : decode cX9_of 68 = .ok (.iaload, 1) := by decide +kernel
theorem dX9_of_69 : decode cX9_of 69 = .ok (.ireturn, 1) := by decide +kernel
theorem dX9_about_0 : decode cX9_about 0 = .ok (.iload_n 1, 1) := by decide +kernel
theorem dX9_about_1 : decode cX9_about 1 = .ok (.invokestatic 219, 3) := by decide +kernel
theorem dX9_about_4 : decode cX9_about 4 = .ok (.ifCond .eq 12, 3) := by decide +kernel
theorem dX9_about_7 : decode cX9_about 7 = .ok (.iload_n 2, 1) := by decide +kernel
theorem dX9_about_8 : decode cX9_about 8 = .ok (.iconst 0, 1) := by decide +kernel
theorem dX9_about_9 : decode cX9_about 9 = .ok (.iconst 2, 1) := by decide +kernel
theorem dX9_about_10 : decode cX9_about 10 = .ok (.invokestatic 91, 3) := by decide +kernel
theorem dX9_about_13 : decode cX9_about 13 = .ok (.ifCond .ne 8, 3) := by decide +kernel
theorem dX9_about_16 : decode cX9_about 16 = .ok (.aload_n 0, 1) := by decide +kernel
theorem dX9_about_17 : decode cX9_about 17 = .ok (.invokevirtual 95, 3) := by decide +kernel
theorem dX9_about_20 : decode cX9_about 20 = .ok (.ireturn, 1) := by decide +kernel
theorem dX9_about_21 : decode cX9_about 21 = .ok (.iload_n 2, 1) := by decide +kernel
theorem dX9_about_22 : decode cX9_about 22 = .ok (.ifCond .ne 12, 3) := by decide +kernel
theorem dX9_about_25 : decode cX9_about 25 = .ok (.aload_n 0, 1) := by decide +kernel
theorem dX9_about_26 : decode cX9_about 26 = .ok (.getfield 25, 3) := by decide +kernel
theorem dX9_about_29 : decode cX9_about 29 = .ok (.iload_n 1, 1) := by decide +kernel
theorem dX9_about_30 : decode cX9_about 30 = .ok (.iaload, 1) := by decide +kernel
theorem dX9_about_31 : decode cX9_about 31 = .ok (.goto 24, 3) := by decide +kernel
theorem dX9_about_34 : decode cX9_about 34 = .ok (.iload_n 2, 1) := by decide +kernel
theorem dX9_about_35 : decode cX9_about 35 = .ok (.iconst 1, 1) := by decide +kernel
theorem dX9_about_36 : decode cX9_about 36 = .ok (.if_icmp .ne 11, 3) := by decide +kernel
theorem dX9_about_39 : decode cX9_about 39 = .ok (.aload_n 0, 1) := by decide +kernel
theorem dX9_about_40 : decode cX9_about 40 = .ok (.iload_n 1, 1) := by decide +kernel
theorem dX9_about_41 : decode cX9_about 41 = .ok (.invokevirtual 238, 3) := by decide +kernel
theorem dX9_about_44 : decode cX9_about 44 = .ok (.goto 11, 3) := by decide +kernel
theorem dX9_about_47 : decode cX9_about 47 = .ok (.aload_n 0, 1) := by decide +kernel
theorem dX9_about_48 : decode cX9_about 48 = .ok (.getfield 76, 3) := by decide +kernel
theorem dX9_about_51 : decode cX9_about 51 = .ok (.iload_n 1, 1) := by decide +kernel
theorem dX9_about_52 : decode cX9_about 52 = .ok (.ishr, 1) := by decide +kernel
theorem dX9_about_53 : decode cX9_about 53 = .ok (.iconst 1, 1) := by decide +kernel
theorem dX9_about_54 : decode cX9_about 54 = .ok (.iand, 1) := by decide +kernel
theorem dX9_about_55 : decode cX9_about 55 = .ok (.ireturn, 1) := by decide +kernel
theorem dX9_asks_0 : decode cX9_asks 0 = .ok (.aload_n 0, 1) := by decide +kernel
theorem dX9_asks_1 : decode cX9_asks 1 = .ok (.iload_n 1, 1) := by decide +kernel
theorem dX9_asks_2 : decode cX9_asks 2 = .ok (.invokevirtual 216, 3) := by decide +kernel
theorem dX9_asks_5 : decode cX9_asks 5 = .ok (.ifCond .eq 19, 3) := by decide +kernel
theorem dX9_asks_8 : decode cX9_asks 8 = .ok (.iload_n 2, 1) := by decide +kernel
theorem dX9_asks_9 : decode cX9_asks 9 = .ok (.invokestatic 219, 3) := by decide +kernel
theorem dX9_asks_12 : decode cX9_asks 12 = .ok (.ifCond .eq 12, 3) := by decide +kernel
theorem dX9_asks_15 : decode cX9_asks 15 = .ok (.iload_n 3, 1) := by decide +kernel
theorem dX9_asks_16 : decode cX9_asks 16 = .ok (.iconst 0, 1) := by decide +kernel
theorem dX9_asks_17 : decode cX9_asks 17 = .ok (.iconst 2, 1) := by decide +kernel
theorem dX9_asks_18 : decode cX9_asks 18 = .ok (.invokestatic 91, 3) := by decide +kernel
theorem dX9_asks_21 : decode cX9_asks 21 = .ok (.ifCond .ne 8, 3) := by decide +kernel
theorem dX9_asks_24 : decode cX9_asks 24 = .ok (.aload_n 0, 1) := by decide +kernel
theorem dX9_asks_25 : decode cX9_asks 25 = .ok (.invokevirtual 95, 3) := by decide +kernel
theorem dX9_asks_28 : decode cX9_asks 28 = .ok (.ireturn, 1) := by decide +kernel
theorem dX9_asks_29 : decode cX9_asks 29 = .ok (.aload_n 0, 1) := by decide +kernel
theorem dX9_asks_30 : decode cX9_asks 30 = .ok (.invokevirtual 210, 3) := by decide +kernel
theorem dX9_asks_33 : decode cX9_asks 33 = .ok (.istore 4, 2) := by decide +kernel
theorem dX9_asks_35 : decode cX9_asks 35 = .ok (.iload_n 3, 1) := by decide +kernel
theorem dX9_asks_36 : decode cX9_asks 36 = .ok (.ifCond .ne 14, 3) := by decide +kernel
theorem dX9_asks_39 : decode cX9_asks 39 = .ok (.aload_n 0, 1) := by decide +kernel
theorem dX9_asks_40 : decode cX9_asks 40 = .ok (.iload_n 1, 1) := by decide +kernel
theorem dX9_asks_41 : decode cX9_asks 41 = .ok (.iload_n 2, 1) := by decide +kernel
theorem dX9_asks_42 : decode cX9_asks 42 = .ok (.iload 4, 2) := by decide +kernel
theorem dX9_asks_44 : decode cX9_asks 44 = .ok (.invokevirtual 198, 3) := by decide +kernel
theorem dX9_asks_47 : decode cX9_asks 47 = .ok (.goto 48, 3) := by decide +kernel
theorem dX9_asks_50 : decode cX9_asks 50 = .ok (.iload_n 3, 1) := by decide +kernel
theorem dX9_asks_51 : decode cX9_asks 51 = .ok (.iconst 1, 1) := by decide +kernel
theorem dX9_asks_52 : decode cX9_asks 52 = .ok (.if_icmp .ne 14, 3) := by decide +kernel
theorem dX9_asks_55 : decode cX9_asks 55 = .ok (.aload_n 0, 1) := by decide +kernel
theorem dX9_asks_56 : decode cX9_asks 56 = .ok (.iload_n 1, 1) := by decide +kernel
theorem dX9_asks_57 : decode cX9_asks 57 = .ok (.iload_n 2, 1) := by decide +kernel
theorem dX9_asks_58 : decode cX9_asks 58 = .ok (.iload 4, 2) := by decide +kernel
theorem dX9_asks_60 : decode cX9_asks 60 = .ok (.invokevirtual 195, 3) := by decide +kernel
theorem dX9_asks_63 : decode cX9_asks 63 = .ok (.goto 32, 3) := by decide +kernel
theorem dX9_asks_66 : decode cX9_asks 66 = .ok (.aload_n 0, 1) := by decide +kernel
theorem dX9_asks_67 : decode cX9_asks 67 = .ok (.getfield 22, 3) := by decide +kernel
theorem dX9_asks_70 : decode cX9_asks 70 = .ok (.iload_n 1, 1) := by decide +kernel
theorem dX9_asks_71 : decode cX9_asks 71 = .ok (.iaload, 1) := by decide +kernel
theorem dX9_asks_72 : decode cX9_asks 72 = .ok (.iload_n 2, 1) := by decide +kernel
theorem dX9_asks_73 : decode cX9_asks 73 = .ok (.invokestatic 189, 3) := by decide +kernel
theorem dX9_asks_76 : decode cX9_asks 76 = .ok (.ifCond .ne 14, 3) := by decide +kernel
theorem dX9_asks_79 : decode cX9_asks 79 = .ok (.aload_n 0, 1) := by decide +kernel
theorem dX9_asks_80 : decode cX9_asks 80 = .ok (.iload_n 1, 1) := by decide +kernel
theorem dX9_asks_81 : decode cX9_asks 81 = .ok (.iload_n 2, 1) := by decide +kernel
theorem dX9_asks_82 : decode cX9_asks 82 = .ok (.iload 4, 2) := by decide +kernel
theorem dX9_asks_84 : decode cX9_asks 84 = .ok (.invokevirtual 213, 3) := by decide +kernel
theorem dX9_asks_87 : decode cX9_asks 87 = .ok (.ifCond .eq 7, 3) := by decide +kernel
theorem dX9_asks_90 : decode cX9_asks 90 = .ok (.iconst 1, 1) := by decide +kernel
theorem dX9_asks_91 : decode cX9_asks 91 = .ok (.goto 4, 3) := by decide +kernel
theorem dX9_asks_94 : decode cX9_asks 94 = .ok (.iconst 0, 1) := by decide +kernel
theorem dX9_asks_95 : decode cX9_asks 95 = .ok (.ireturn, 1) := by decide +kernel
theorem dX9_word_0 : decode cX9_word 0 = .ok (.aload_n 0, 1) := by decide +kernel
theorem dX9_word_1 : decode cX9_word 1 = .ok (.iload_n 1, 1) := by decide +kernel
theorem dX9_word_2 : decode cX9_word 2 = .ok (.invokevirtual 216, 3) := by decide +kernel
theorem dX9_word_5 : decode cX9_word 5 = .ok (.ifCond .eq 15, 3) := by decide +kernel
theorem dX9_word_8 : decode cX9_word 8 = .ok (.aload_n 0, 1) := by decide +kernel
theorem dX9_word_9 : decode cX9_word 9 = .ok (.iload_n 1, 1) := by decide +kernel
theorem dX9_word_10 : decode cX9_word 10 = .ok (.aload_n 0, 1) := by decide +kernel
theorem dX9_word_11 : decode cX9_word 11 = .ok (.invokevirtual 210, 3) := by decide +kernel
theorem dX9_word_14 : decode cX9_word 14 = .ok (.invokevirtual 192, 3) := by decide +kernel
theorem dX9_word_17 : decode cX9_word 17 = .ok (.goto 7, 3) := by decide +kernel
theorem dX9_word_20 : decode cX9_word 20 = .ok (.aload_n 0, 1) := by decide +kernel
theorem dX9_word_21 : decode cX9_word 21 = .ok (.invokevirtual 95, 3) := by decide +kernel
theorem dX9_word_24 : decode cX9_word 24 = .ok (.ireturn, 1) := by decide +kernel
theorem dX9_high_0 : decode cX9_high 0 = .ok (.aload_n 0, 1) := by decide +kernel
theorem dX9_high_1 : decode cX9_high 1 = .ok (.iload_n 1, 1) := by decide +kernel
theorem dX9_high_2 : decode cX9_high 2 = .ok (.invokevirtual 216, 3) := by decide +kernel
theorem dX9_high_5 : decode cX9_high 5 = .ok (.ifCond .ne 8, 3) := by decide +kernel
theorem dX9_high_8 : decode cX9_high 8 = .ok (.aload_n 0, 1) := by decide +kernel
theorem dX9_high_9 : decode cX9_high 9 = .ok (.invokevirtual 232, 3) := by decide +kernel
theorem dX9_high_12 : decode cX9_high 12 = .ok (.ireturn, 1) := by decide +kernel
theorem dX9_high_13 : decode cX9_high 13 = .ok (.aload_n 0, 1) := by decide +kernel
theorem dX9_high_14 : decode cX9_high 14 = .ok (.getfield 19, 3) := by decide +kernel
theorem dX9_high_17 : decode cX9_high 17 = .ok (.iload_n 1, 1) := by decide +kernel
theorem dX9_high_18 : decode cX9_high 18 = .ok (.iaload, 1) := by decide +kernel
theorem dX9_high_19 : decode cX9_high 19 = .ok (.istore_n 2, 1) := by decide +kernel
theorem dX9_high_20 : decode cX9_high 20 = .ok (.iload_n 2, 1) := by decide +kernel
theorem dX9_high_21 : decode cX9_high 21 = .ok (.bipush 8, 2) := by decide +kernel
theorem dX9_high_23 : decode cX9_high 23 = .ok (.if_icmp .ge 30, 3) := by decide +kernel
theorem dX9_high_26 : decode cX9_high 26 = .ok (.iload_n 2, 1) := by decide +kernel
theorem dX9_high_27 : decode cX9_high 27 = .ok (.bipush 7, 2) := by decide +kernel
theorem dX9_high_29 : decode cX9_high 29 = .ok (.if_icmp .eq 18, 3) := by decide +kernel
theorem dX9_high_32 : decode cX9_high 32 = .ok (.aload_n 0, 1) := by decide +kernel
theorem dX9_high_33 : decode cX9_high 33 = .ok (.getfield 22, 3) := by decide +kernel
theorem dX9_high_36 : decode cX9_high 36 = .ok (.iload_n 1, 1) := by decide +kernel
theorem dX9_high_37 : decode cX9_high 37 = .ok (.iaload, 1) := by decide +kernel
theorem dX9_high_38 : decode cX9_high 38 = .ok (.iload_n 2, 1) := by decide +kernel
theorem dX9_high_39 : decode cX9_high 39 = .ok (.iconst 1, 1) := by decide +kernel
theorem dX9_high_40 : decode cX9_high 40 = .ok (.iadd, 1) := by decide +kernel
theorem dX9_high_41 : decode cX9_high 41 = .ok (.invokestatic 189, 3) := by decide +kernel
theorem dX9_high_44 : decode cX9_high 44 = .ok (.ifCond .eq 9, 3) := by decide +kernel
theorem dX9_high_47 : decode cX9_high 47 = .ok (.iinc 2 1, 3) := by decide +kernel
theorem dX9_high_50 : decode cX9_high 50 = .ok (.goto (-30), 3) := by decide +kernel
theorem dX9_high_53 : decode cX9_high 53 = .ok (.iload_n 2, 1) := by decide +kernel
theorem dX9_high_54 : decode cX9_high 54 = .ok (.ireturn, 1) := by decide +kernel
theorem dX9_hears_0 : decode cX9_hears 0 = .ok (.aload_n 0, 1) := by decide +kernel
theorem dX9_hears_1 : decode cX9_hears 1 = .ok (.iload_n 1, 1) := by decide +kernel
theorem dX9_hears_2 : decode cX9_hears 2 = .ok (.invokevirtual 216, 3) := by decide +kernel
theorem dX9_hears_5 : decode cX9_hears 5 = .ok (.ifCond .eq 10, 3) := by decide +kernel
theorem dX9_hears_8 : decode cX9_hears 8 = .ok (.iload_n 2, 1) := by decide +kernel
theorem dX9_hears_9 : decode cX9_hears 9 = .ok (.invokestatic 219, 3) := by decide +kernel
theorem dX9_hears_12 : decode cX9_hears 12 = .ok (.ifCond .ne 8, 3) := by decide +kernel
theorem dX9_hears_15 : decode cX9_hears 15 = .ok (.aload_n 0, 1) := by decide +kernel
theorem dX9_hears_16 : decode cX9_hears 16 = .ok (.invokevirtual 95, 3) := by decide +kernel
theorem dX9_hears_19 : decode cX9_hears 19 = .ok (.ireturn, 1) := by decide +kernel
theorem dX9_hears_20 : decode cX9_hears 20 = .ok (.aload_n 0, 1) := by decide +kernel
theorem dX9_hears_21 : decode cX9_hears 21 = .ok (.aload_n 0, 1) := by decide +kernel
theorem dX9_hears_22 : decode cX9_hears 22 = .ok (.getfield 46, 3) := by decide +kernel
theorem dX9_hears_25 : decode cX9_hears 25 = .ok (.iconst 0, 1) := by decide +kernel
theorem dX9_hears_26 : decode cX9_hears 26 = .ok (.invokevirtual 207, 3) := by decide +kernel
theorem dX9_hears_29 : decode cX9_hears 29 = .ok (.iconst 0, 1) := by decide +kernel
theorem dX9_hears_30 : decode cX9_hears 30 = .ok (.istore_n 3, 1) := by decide +kernel
theorem dX9_hears_31 : decode cX9_hears 31 = .ok (.iload_n 3, 1) := by decide +kernel
theorem dX9_hears_32 : decode cX9_hears 32 = .ok (.bipush 60, 2) := by decide +kernel
theorem dX9_hears_34 : decode cX9_hears 34 = .ok (.if_icmp .ge 26, 3) := by decide +kernel
theorem dX9_hears_37 : decode cX9_hears 37 = .ok (.aload_n 0, 1) := by decide +kernel
theorem dX9_hears_38 : decode cX9_hears 38 = .ok (.getfield 22, 3) := by decide +kernel
theorem dX9_hears_41 : decode cX9_hears 41 = .ok (.iload_n 1, 1) := by decide +kernel
theorem dX9_hears_42 : decode cX9_hears 42 = .ok (.iaload, 1) := by decide +kernel
theorem dX9_hears_43 : decode cX9_hears 43 = .ok (.iload_n 2, 1) := by decide +kernel
theorem dX9_hears_44 : decode cX9_hears 44 = .ok (.invokestatic 189, 3) := by decide +kernel
theorem dX9_hears_47 : decode cX9_hears 47 = .ok (.ifCond .ne 13, 3) := by decide +kernel
theorem dX9_hears_50 : decode cX9_hears 50 = .ok (.aload_n 0, 1) := by decide +kernel
theorem dX9_hears_51 : decode cX9_hears 51 = .ok (.invokevirtual 204, 3) := by decide +kernel
theorem dX9_hears_54 : decode cX9_hears 54 = .ok (.iinc 3 1, 3) := by decide +kernel
theorem dX9_hears_57 : decode cX9_hears 57 = .ok (.goto (-26), 3) := by decide +kernel
theorem dX9_hears_60 : decode cX9_hears 60 = .ok (.aload_n 0, 1) := by decide +kernel
theorem dX9_hears_61 : decode cX9_hears 61 = .ok (.getfield 22, 3) := by decide +kernel
theorem dX9_hears_64 : decode cX9_hears 64 = .ok (.iload_n 1, 1) := by decide +kernel
theorem dX9_hears_65 : decode cX9_hears 65 = .ok (.iaload, 1) := by decide +kernel
theorem dX9_hears_66 : decode cX9_hears 66 = .ok (.iload_n 2, 1) := by decide +kernel
theorem dX9_hears_67 : decode cX9_hears 67 = .ok (.invokestatic 189, 3) := by decide +kernel
theorem dX9_hears_70 : decode cX9_hears 70 = .ok (.istore 4, 2) := by decide +kernel
theorem dX9_hears_72 : decode cX9_hears 72 = .ok (.aload_n 0, 1) := by decide +kernel
theorem dX9_hears_73 : decode cX9_hears 73 = .ok (.aload_n 0, 1) := by decide +kernel
theorem dX9_hears_74 : decode cX9_hears 74 = .ok (.getfield 46, 3) := by decide +kernel
theorem dX9_hears_77 : decode cX9_hears 77 = .ok (.iconst 0, 1) := by decide +kernel
theorem dX9_hears_78 : decode cX9_hears 78 = .ok (.invokevirtual 241, 3) := by decide +kernel
theorem dX9_hears_81 : decode cX9_hears 81 = .ok (.iload 4, 2) := by decide +kernel
theorem dX9_hears_83 : decode cX9_hears 83 = .ok (.ifCond .eq 7, 3) := by decide +kernel
theorem dX9_hears_86 : decode cX9_hears 86 = .ok (.iload_n 3, 1) := by decide +kernel
theorem dX9_hears_87 : decode cX9_hears 87 = .ok (.goto 4, 3) := by decide +kernel
theorem dX9_hears_90 : decode cX9_hears 90 = .ok (.iconst (-1), 1) := by decide +kernel
theorem dX9_hears_91 : decode cX9_hears 91 = .ok (.ireturn, 1) := by decide +kernel
theorem dX9_then_0 : decode cX9_then 0 = .ok (.aload_n 0, 1) := by decide +kernel
theorem dX9_then_1 : decode cX9_then 1 = .ok (.iload_n 1, 1) := by decide +kernel
theorem dX9_then_2 : decode cX9_then 2 = .ok (.invokevirtual 216, 3) := by decide +kernel
theorem dX9_then_5 : decode cX9_then 5 = .ok (.ifCond .eq 13, 3) := by decide +kernel
theorem dX9_then_8 : decode cX9_then 8 = .ok (.iload_n 2, 1) := by decide +kernel
theorem dX9_then_9 : decode cX9_then 9 = .ok (.iconst 0, 1) := by decide +kernel
theorem dX9_then_10 : decode cX9_then 10 = .ok (.bipush 60, 2) := by decide +kernel
theorem dX9_then_12 : decode cX9_then 12 = .ok (.invokestatic 91, 3) := by decide +kernel
theorem dX9_then_15 : decode cX9_then 15 = .ok (.ifCond .ne 8, 3) := by decide +kernel
theorem dX9_then_18 : decode cX9_then 18 = .ok (.aload_n 0, 1) := by decide +kernel
theorem dX9_then_19 : decode cX9_then 19 = .ok (.invokevirtual 95, 3) := by decide +kernel
theorem dX9_then_22 : decode cX9_then 22 = .ok (.ireturn, 1) := by decide +kernel
theorem dX9_then_23 : decode cX9_then 23 = .ok (.aload_n 0, 1) := by decide +kernel
theorem dX9_then_24 : decode cX9_then 24 = .ok (.aload_n 0, 1) := by decide +kernel
theorem dX9_then_25 : decode cX9_then 25 = .ok (.getfield 46, 3) := by decide +kernel
theorem dX9_then_28 : decode cX9_then 28 = .ok (.iconst 0, 1) := by decide +kernel
theorem dX9_then_29 : decode cX9_then 29 = .ok (.invokevirtual 207, 3) := by decide +kernel
theorem dX9_then_32 : decode cX9_then 32 = .ok (.aload_n 0, 1) := by decide +kernel
theorem dX9_then_33 : decode cX9_then 33 = .ok (.iload_n 2, 1) := by decide +kernel
theorem dX9_then_34 : decode cX9_then 34 = .ok (.invokevirtual 143, 3) := by decide +kernel
theorem dX9_then_37 : decode cX9_then 37 = .ok (.aload_n 0, 1) := by decide +kernel
theorem dX9_then_38 : decode cX9_then 38 = .ok (.getfield 22, 3) := by decide +kernel
theorem dX9_then_41 : decode cX9_then 41 = .ok (.iload_n 1, 1) := by decide +kernel
theorem dX9_then_42 : decode cX9_then 42 = .ok (.iaload, 1) := by decide +kernel
theorem dX9_then_43 : decode cX9_then 43 = .ok (.istore_n 3, 1) := by decide +kernel
theorem dX9_then_44 : decode cX9_then 44 = .ok (.aload_n 0, 1) := by decide +kernel
theorem dX9_then_45 : decode cX9_then 45 = .ok (.aload_n 0, 1) := by decide +kernel
theorem dX9_then_46 : decode cX9_then 46 = .ok (.getfield 46, 3) := by decide +kernel
theorem dX9_then_49 : decode cX9_then 49 = .ok (.iconst 0, 1) := by decide +kernel
theorem dX9_then_50 : decode cX9_then 50 = .ok (.invokevirtual 241, 3) := by decide +kernel
theorem dX9_then_53 : decode cX9_then 53 = .ok (.iload_n 3, 1) := by decide +kernel
theorem dX9_then_54 : decode cX9_then 54 = .ok (.ireturn, 1) := by decide +kernel
theorem dX9_isMay_0 : decode cX9_isMay 0 = .ok (.aload_n 0, 1) := by decide +kernel
theorem dX9_isMay_1 : decode cX9_isMay 1 = .ok (.getfield 49, 3) := by decide +kernel
theorem dX9_isMay_4 : decode cX9_isMay 4 = .ok (.iconst 4, 1) := by decide +kernel
theorem dX9_isMay_5 : decode cX9_isMay 5 = .ok (.iload_n 1, 1) := by decide +kernel
theorem dX9_isMay_6 : decode cX9_isMay 6 = .ok (.imul, 1) := by decide +kernel
theorem dX9_isMay_7 : decode cX9_isMay 7 = .ok (.iload_n 2, 1) := by decide +kernel
theorem dX9_isMay_8 : decode cX9_isMay 8 = .ok (.bipush 64, 2) := by decide +kernel
theorem dX9_isMay_10 : decode cX9_isMay 10 = .ok (.idiv, 1) := by decide +kernel
theorem dX9_isMay_11 : decode cX9_isMay 11 = .ok (.iadd, 1) := by decide +kernel
theorem dX9_isMay_12 : decode cX9_isMay 12 = .ok (.laload, 1) := by decide +kernel
theorem dX9_isMay_13 : decode cX9_isMay 13 = .ok (.iload_n 2, 1) := by decide +kernel
theorem dX9_isMay_14 : decode cX9_isMay 14 = .ok (.bipush 64, 2) := by decide +kernel
theorem dX9_isMay_16 : decode cX9_isMay 16 = .ok (.irem, 1) := by decide +kernel
theorem dX9_isMay_17 : decode cX9_isMay 17 = .ok (.lshr, 1) := by decide +kernel
theorem dX9_isMay_18 : decode cX9_isMay 18 = .ok (.lconst 1, 1) := by decide +kernel
theorem dX9_isMay_19 : decode cX9_isMay 19 = .ok (.land, 1) := by decide +kernel
theorem dX9_isMay_20 : decode cX9_isMay 20 = .ok (.lconst 1, 1) := by decide +kernel
theorem dX9_isMay_21 : decode cX9_isMay 21 = .ok (.lcmp, 1) := by decide +kernel
theorem dX9_isMay_22 : decode cX9_isMay 22 = .ok (.ifCond .ne 7, 3) := by decide +kernel
theorem dX9_isMay_25 : decode cX9_isMay 25 = .ok (.iconst 1, 1) := by decide +kernel
theorem dX9_isMay_26 : decode cX9_isMay 26 = .ok (.goto 4, 3) := by decide +kernel
theorem dX9_isMay_29 : decode cX9_isMay 29 = .ok (.iconst 0, 1) := by decide +kernel
theorem dX9_isMay_30 : decode cX9_isMay 30 = .ok (.ireturn, 1) := by decide +kernel
theorem dX9_setMay_0 : decode cX9_setMay 0 = .ok (.iconst 0, 1) := by decide +kernel
theorem dX9_setMay_1 : decode cX9_setMay 1 = .ok (.istore_n 2, 1) := by decide +kernel
theorem dX9_setMay_2 : decode cX9_setMay 2 = .ok (.iload_n 2, 1) := by decide +kernel
theorem dX9_setMay_3 : decode cX9_setMay 3 = .ok (.sipush 164, 3) := by decide +kernel
theorem dX9_setMay_6 : decode cX9_setMay 6 = .ok (.if_icmp .ge 16, 3) := by decide +kernel
theorem dX9_setMay_9 : decode cX9_setMay 9 = .ok (.aload_n 0, 1) := by decide +kernel
theorem dX9_setMay_10 : decode cX9_setMay 10 = .ok (.getfield 49, 3) := by decide +kernel
theorem dX9_setMay_13 : decode cX9_setMay 13 = .ok (.iload_n 2, 1) := by decide +kernel
theorem dX9_setMay_14 : decode cX9_setMay 14 = .ok (.lconst 0, 1) := by decide +kernel
theorem dX9_setMay_15 : decode cX9_setMay 15 = .ok (.lastore, 1) := by decide +kernel
theorem dX9_setMay_16 : decode cX9_setMay 16 = .ok (.iinc 2 1, 3) := by decide +kernel
theorem dX9_setMay_19 : decode cX9_setMay 19 = .ok (.goto (-17), 3) := by decide +kernel
theorem dX9_setMay_22 : decode cX9_setMay 22 = .ok (.aload_n 0, 1) := by decide +kernel
theorem dX9_setMay_23 : decode cX9_setMay 23 = .ok (.getfield 49, 3) := by decide +kernel
theorem dX9_setMay_26 : decode cX9_setMay 26 = .ok (.iconst 4, 1) := by decide +kernel
theorem dX9_setMay_27 : decode cX9_setMay 27 = .ok (.iload_n 1, 1) := by decide +kernel
theorem dX9_setMay_28 : decode cX9_setMay 28 = .ok (.imul, 1) := by decide +kernel
theorem dX9_setMay_29 : decode cX9_setMay 29 = .ok (.lconst 1, 1) := by decide +kernel
theorem dX9_setMay_30 : decode cX9_setMay 30 = .ok (.lastore, 1) := by decide +kernel
theorem dX9_setMay_31 : decode cX9_setMay 31 = .ok (.iload_n 1, 1) := by decide +kernel
theorem dX9_setMay_32 : decode cX9_setMay 32 = .ok (.iconst 1, 1) := by decide +kernel
theorem dX9_setMay_33 : decode cX9_setMay 33 = .ok (.isub, 1) := by decide +kernel
theorem dX9_setMay_34 : decode cX9_setMay 34 = .ok (.istore_n 2, 1) := by decide +kernel
theorem dX9_setMay_35 : decode cX9_setMay 35 = .ok (.iload_n 2, 1) := by decide +kernel
theorem dX9_setMay_36 : decode cX9_setMay 36 = .ok (.ifCond .lt 135, 3) := by decide +kernel
theorem dX9_setMay_39 : decode cX9_setMay 39 = .ok (.iconst 0, 1) := by decide +kernel
theorem dX9_setMay_40 : decode cX9_setMay 40 = .ok (.istore_n 3, 1) := by decide +kernel
theorem dX9_setMay_41 : decode cX9_setMay 41 = .ok (.iload_n 3, 1) := by decide +kernel
theorem dX9_setMay_42 : decode cX9_setMay 42 = .ok (.sipush 256, 3) := by decide +kernel
theorem dX9_setMay_45 : decode cX9_setMay 45 = .ok (.if_icmp .ge 120, 3) := by decide +kernel
theorem dX9_setMay_48 : decode cX9_setMay 48 = .ok (.aload_n 0, 1) := by decide +kernel
theorem dX9_setMay_49 : decode cX9_setMay 49 = .ok (.iload_n 2, 1) := by decide +kernel
theorem dX9_setMay_50 : decode cX9_setMay 50 = .ok (.iconst 1, 1) := by decide +kernel
theorem dX9_setMay_51 : decode cX9_setMay 51 = .ok (.iadd, 1) := by decide +kernel
theorem dX9_setMay_52 : decode cX9_setMay 52 = .ok (.iload_n 3, 1) := by decide +kernel
theorem dX9_setMay_53 : decode cX9_setMay 53 = .ok (.invokevirtual 244, 3) := by decide +kernel
theorem dX9_setMay_56 : decode cX9_setMay 56 = .ok (.istore 4, 2) := by decide +kernel
theorem dX9_setMay_58 : decode cX9_setMay 58 = .ok (.iconst 0, 1) := by decide +kernel
theorem dX9_setMay_59 : decode cX9_setMay 59 = .ok (.istore 5, 2) := by decide +kernel
theorem dX9_setMay_61 : decode cX9_setMay 61 = .ok (.iload 5, 2) := by decide +kernel
theorem dX9_setMay_63 : decode cX9_setMay 63 = .ok (.bipush 8, 2) := by decide +kernel
theorem dX9_setMay_65 : decode cX9_setMay 65 = .ok (.if_icmp .ge 63, 3) := by decide +kernel
theorem dX9_setMay_68 : decode cX9_setMay 68 = .ok (.iload 4, 2) := by decide +kernel
theorem dX9_setMay_70 : decode cX9_setMay 70 = .ok (.ifCond .ne 58, 3) := by decide +kernel
theorem dX9_setMay_73 : decode cX9_setMay 73 = .ok (.iload_n 3, 1) := by decide +kernel
theorem dX9_setMay_74 : decode cX9_setMay 74 = .ok (.aload_n 0, 1) := by decide +kernel
theorem dX9_setMay_75 : decode cX9_setMay 75 = .ok (.getfield 53, 3) := by decide +kernel
theorem dX9_setMay_78 : decode cX9_setMay 78 = .ok (.aload_n 0, 1) := by decide +kernel
theorem dX9_setMay_79 : decode cX9_setMay 79 = .ok (.getfield 73, 3) := by decide +kernel
theorem dX9_setMay_82 : decode cX9_setMay 82 = .ok (.iload_n 2, 1) := by decide +kernel
theorem dX9_setMay_83 : decode cX9_setMay 83 = .ok (.iadd, 1) := by decide +kernel
theorem dX9_setMay_84 : decode cX9_setMay 84 = .ok (.bipush 24, 2) := by decide +kernel
theorem dX9_setMay_86 : decode cX9_setMay 86 = .ok (.irem, 1) := by decide +kernel
theorem dX9_setMay_87 : decode cX9_setMay 87 = .ok (.iaload, 1) := by decide +kernel
theorem dX9_setMay_88 : decode cX9_setMay 88 = .ok (.iand, 1) := by decide +kernel
theorem dX9_setMay_89 : decode cX9_setMay 89 = .ok (.iload 5, 2) := by decide +kernel
theorem dX9_setMay_91 : decode cX9_setMay 91 = .ok (.invokestatic 189, 3) := by decide +kernel
theorem dX9_setMay_94 : decode cX9_setMay 94 = .ok (.ifCond .eq 25, 3) := by decide +kernel
theorem dX9_setMay_97 : decode cX9_setMay 97 = .ok (.aload_n 0, 1) := by decide +kernel
theorem dX9_setMay_98 : decode cX9_setMay 98 = .ok (.iload_n 2, 1) := by decide +kernel
theorem dX9_setMay_99 : decode cX9_setMay 99 = .ok (.iconst 1, 1) := by decide +kernel
theorem dX9_setMay_100 : decode cX9_setMay 100 = .ok (.iadd, 1) := by decide +kernel
theorem dX9_setMay_101 : decode cX9_setMay 101 = .ok (.iload_n 3, 1) := by decide +kernel
theorem dX9_setMay_102 : decode cX9_setMay 102 = .ok (.iconst 1, 1) := by decide +kernel
theorem dX9_setMay_103 : decode cX9_setMay 103 = .ok (.iload 5, 2) := by decide +kernel
theorem dX9_setMay_105 : decode cX9_setMay 105 = .ok (.ishl, 1) := by decide +kernel
theorem dX9_setMay_106 : decode cX9_setMay 106 = .ok (.iconst (-1), 1) := by decide +kernel
theorem dX9_setMay_107 : decode cX9_setMay 107 = .ok (.ixor, 1) := by decide +kernel
theorem dX9_setMay_108 : decode cX9_setMay 108 = .ok (.iand, 1) := by decide +kernel
theorem dX9_setMay_109 : decode cX9_setMay 109 = .ok (.invokevirtual 244, 3) := by decide +kernel
theorem dX9_setMay_112 : decode cX9_setMay 112 = .ok (.ifCond .eq 7, 3) := by decide +kernel
theorem dX9_setMay_115 : decode cX9_setMay 115 = .ok (.iconst 1, 1) := by decide +kernel
theorem dX9_setMay_116 : decode cX9_setMay 116 = .ok (.goto 4, 3) := by decide +kernel
theorem dX9_setMay_119 : decode cX9_setMay 119 = .ok (.iconst 0, 1) := by decide +kernel
theorem dX9_setMay_120 : decode cX9_setMay 120 = .ok (.istore 4, 2) := by decide +kernel
theorem dX9_setMay_122 : decode cX9_setMay 122 = .ok (.iinc 5 1, 3) := by decide +kernel
theorem dX9_setMay_125 : decode cX9_setMay 125 = .ok (.goto (-64), 3) := by decide +kernel
theorem dX9_setMay_128 : decode cX9_setMay 128 = .ok (.aload_n 0, 1) := by decide +kernel
theorem dX9_setMay_129 : decode cX9_setMay 129 = .ok (.getfield 49, 3) := by decide +kernel
theorem dX9_setMay_132 : decode cX9_setMay 132 = .ok (.iconst 4, 1) := by decide +kernel
theorem dX9_setMay_133 : decode cX9_setMay 133 = .ok (.iload_n 2, 1) := by decide +kernel
theorem dX9_setMay_134 : decode cX9_setMay 134 = .ok (.imul, 1) := by decide +kernel
theorem dX9_setMay_135 : decode cX9_setMay 135 = .ok (.iload_n 3, 1) := by decide +kernel
theorem dX9_setMay_136 : decode cX9_setMay 136 = .ok (.bipush 64, 2) := by decide +kernel
theorem dX9_setMay_138 : decode cX9_setMay 138 = .ok (.idiv, 1) := by decide +kernel
theorem dX9_setMay_139 : decode cX9_setMay 139 = .ok (.iadd, 1) := by decide +kernel
theorem dX9_setMay_140 : decode cX9_setMay 140 = .ok (.dup2, 1) := by decide +kernel
theorem dX9_setMay_141 : decode cX9_setMay 141 = .ok (.laload, 1) := by decide +kernel
theorem dX9_setMay_142 : decode cX9_setMay 142 = .ok (.iload 4, 2) := by decide +kernel
theorem dX9_setMay_144 : decode cX9_setMay 144 = .ok (.ifCond .eq 12, 3) := by decide +kernel
theorem dX9_setMay_147 : decode cX9_setMay 147 = .ok (.lconst 1, 1) := by decide +kernel
theorem dX9_setMay_148 : decode cX9_setMay 148 = .ok (.iload_n 3, 1) := by decide +kernel
theorem dX9_setMay_149 : decode cX9_setMay 149 = .ok (.bipush 64, 2) := by decide +kernel
theorem dX9_setMay_151 : decode cX9_setMay 151 = .ok (.irem, 1) := by decide +kernel
theorem dX9_setMay_152 : decode cX9_setMay 152 = .ok (.lshl, 1) := by decide +kernel
theorem dX9_setMay_153 : decode cX9_setMay 153 = .ok (.goto 4, 3) := by decide +kernel
theorem dX9_setMay_156 : decode cX9_setMay 156 = .ok (.lconst 0, 1) := by decide +kernel
theorem dX9_setMay_157 : decode cX9_setMay 157 = .ok (.lor, 1) := by decide +kernel
theorem dX9_setMay_158 : decode cX9_setMay 158 = .ok (.lastore, 1) := by decide +kernel
theorem dX9_setMay_159 : decode cX9_setMay 159 = .ok (.iinc 3 1, 3) := by decide +kernel
theorem dX9_setMay_162 : decode cX9_setMay 162 = .ok (.goto (-121), 3) := by decide +kernel
theorem dX9_setMay_165 : decode cX9_setMay 165 = .ok (.iinc 2 (-1), 3) := by decide +kernel
theorem dX9_setMay_168 : decode cX9_setMay 168 = .ok (.goto (-133), 3) := by decide +kernel
theorem dX9_setMay_171 : decode cX9_setMay 171 = .ok (.return_, 1) := by decide +kernel
theorem dX9_does_0 : decode cX9_does 0 = .ok (.aload_n 0, 1) := by decide +kernel
theorem dX9_does_1 : decode cX9_does 1 = .ok (.iload_n 1, 1) := by decide +kernel
theorem dX9_does_2 : decode cX9_does 2 = .ok (.iconst 1, 1) := by decide +kernel
theorem dX9_does_3 : decode cX9_does 3 = .ok (.iadd, 1) := by decide +kernel
theorem dX9_does_4 : decode cX9_does 4 = .ok (.iload_n 2, 1) := by decide +kernel
theorem dX9_does_5 : decode cX9_does 5 = .ok (.invokevirtual 244, 3) := by decide +kernel
theorem dX9_does_8 : decode cX9_does 8 = .ok (.ifCond .eq 5, 3) := by decide +kernel
theorem dX9_does_11 : decode cX9_does 11 = .ok (.iconst (-1), 1) := by decide +kernel
theorem dX9_does_12 : decode cX9_does 12 = .ok (.ireturn, 1) := by decide +kernel
theorem dX9_does_13 : decode cX9_does 13 = .ok (.iconst 0, 1) := by decide +kernel
theorem dX9_does_14 : decode cX9_does 14 = .ok (.istore_n 3, 1) := by decide +kernel
theorem dX9_does_15 : decode cX9_does 15 = .ok (.iload_n 2, 1) := by decide +kernel
theorem dX9_does_16 : decode cX9_does 16 = .ok (.aload_n 0, 1) := by decide +kernel
theorem dX9_does_17 : decode cX9_does 17 = .ok (.getfield 53, 3) := by decide +kernel
theorem dX9_does_20 : decode cX9_does 20 = .ok (.aload_n 0, 1) := by decide +kernel
theorem dX9_does_21 : decode cX9_does 21 = .ok (.getfield 73, 3) := by decide +kernel
theorem dX9_does_24 : decode cX9_does 24 = .ok (.iload_n 1, 1) := by decide +kernel
theorem dX9_does_25 : decode cX9_does 25 = .ok (.iadd, 1) := by decide +kernel
theorem dX9_does_26 : decode cX9_does 26 = .ok (.bipush 24, 2) := by decide +kernel
theorem dX9_does_28 : decode cX9_does 28 = .ok (.irem, 1) := by decide +kernel
theorem dX9_does_29 : decode cX9_does 29 = .ok (.iaload, 1) := by decide +kernel
theorem dX9_does_30 : decode cX9_does 30 = .ok (.iand, 1) := by decide +kernel
theorem dX9_does_31 : decode cX9_does 31 = .ok (.iload_n 3, 1) := by decide +kernel
theorem dX9_does_32 : decode cX9_does 32 = .ok (.invokestatic 189, 3) := by decide +kernel
theorem dX9_does_35 : decode cX9_does 35 = .ok (.ifCond .eq 20, 3) := by decide +kernel
theorem dX9_does_38 : decode cX9_does 38 = .ok (.aload_n 0, 1) := by decide +kernel
theorem dX9_does_39 : decode cX9_does 39 = .ok (.iload_n 1, 1) := by decide +kernel
theorem dX9_does_40 : decode cX9_does 40 = .ok (.iconst 1, 1) := by decide +kernel
theorem dX9_does_41 : decode cX9_does 41 = .ok (.iadd, 1) := by decide +kernel
theorem dX9_does_42 : decode cX9_does 42 = .ok (.iload_n 2, 1) := by decide +kernel
theorem dX9_does_43 : decode cX9_does 43 = .ok (.iconst 1, 1) := by decide +kernel
theorem dX9_does_44 : decode cX9_does 44 = .ok (.iload_n 3, 1) := by decide +kernel
theorem dX9_does_45 : decode cX9_does 45 = .ok (.ishl, 1) := by decide +kernel
theorem dX9_does_46 : decode cX9_does 46 = .ok (.iconst (-1), 1) := by decide +kernel
theorem dX9_does_47 : decode cX9_does 47 = .ok (.ixor, 1) := by decide +kernel
theorem dX9_does_48 : decode cX9_does 48 = .ok (.iand, 1) := by decide +kernel
theorem dX9_does_49 : decode cX9_does 49 = .ok (.invokevirtual 244, 3) := by decide +kernel
theorem dX9_does_52 : decode cX9_does 52 = .ok (.ifCond .ne 9, 3) := by decide +kernel
theorem dX9_does_55 : decode cX9_does 55 = .ok (.iinc 3 1, 3) := by decide +kernel
theorem dX9_does_58 : decode cX9_does 58 = .ok (.goto (-43), 3) := by decide +kernel
theorem dX9_does_61 : decode cX9_does 61 = .ok (.iload_n 3, 1) := by decide +kernel
theorem dX9_does_62 : decode cX9_does 62 = .ok (.ireturn, 1) := by decide +kernel
theorem dX9_plan_0 : decode cX9_plan 0 = .ok (.aload_n 0, 1) := by decide +kernel
theorem dX9_plan_1 : decode cX9_plan 1 = .ok (.iload_n 1, 1) := by decide +kernel
theorem dX9_plan_2 : decode cX9_plan 2 = .ok (.invokevirtual 216, 3) := by decide +kernel
theorem dX9_plan_5 : decode cX9_plan 5 = .ok (.ifCond .eq 24, 3) := by decide +kernel
theorem dX9_plan_8 : decode cX9_plan 8 = .ok (.iload_n 2, 1) := by decide +kernel
theorem dX9_plan_9 : decode cX9_plan 9 = .ok (.iconst 0, 1) := by decide +kernel
theorem dX9_plan_10 : decode cX9_plan 10 = .ok (.bipush 8, 2) := by decide +kernel
theorem dX9_plan_12 : decode cX9_plan 12 = .ok (.invokestatic 91, 3) := by decide +kernel
theorem dX9_plan_15 : decode cX9_plan 15 = .ok (.ifCond .eq 14, 3) := by decide +kernel
theorem dX9_plan_18 : decode cX9_plan 18 = .ok (.iload_n 3, 1) := by decide +kernel
theorem dX9_plan_19 : decode cX9_plan 19 = .ok (.iconst (-1), 1) := by decide +kernel
theorem dX9_plan_20 : decode cX9_plan 20 = .ok (.if_icmp .eq 9, 3) := by decide +kernel
theorem dX9_plan_23 : decode cX9_plan 23 = .ok (.iload_n 3, 1) := by decide +kernel
theorem dX9_plan_24 : decode cX9_plan 24 = .ok (.bipush (-2), 2) := by decide +kernel
theorem dX9_plan_26 : decode cX9_plan 26 = .ok (.if_icmp .ge 8, 3) := by decide +kernel
theorem dX9_plan_29 : decode cX9_plan 29 = .ok (.aload_n 0, 1) := by decide +kernel
theorem dX9_plan_30 : decode cX9_plan 30 = .ok (.invokevirtual 232, 3) := by decide +kernel
theorem dX9_plan_33 : decode cX9_plan 33 = .ok (.ireturn, 1) := by decide +kernel
theorem dX9_plan_34 : decode cX9_plan 34 = .ok (.iconst 0, 1) := by decide +kernel
theorem dX9_plan_35 : decode cX9_plan 35 = .ok (.istore 4, 2) := by decide +kernel
theorem dX9_plan_37 : decode cX9_plan 37 = .ok (.aload_n 0, 1) := by decide +kernel
theorem dX9_plan_38 : decode cX9_plan 38 = .ok (.getfield 19, 3) := by decide +kernel
theorem dX9_plan_41 : decode cX9_plan 41 = .ok (.iload_n 1, 1) := by decide +kernel
theorem dX9_plan_42 : decode cX9_plan 42 = .ok (.iaload, 1) := by decide +kernel
theorem dX9_plan_43 : decode cX9_plan 43 = .ok (.iconst 1, 1) := by decide +kernel
theorem dX9_plan_44 : decode cX9_plan 44 = .ok (.iadd, 1) := by decide +kernel
theorem dX9_plan_45 : decode cX9_plan 45 = .ok (.istore 5, 2) := by decide +kernel
theorem dX9_plan_47 : decode cX9_plan 47 = .ok (.iload 5, 2) := by decide +kernel
theorem dX9_plan_49 : decode cX9_plan 49 = .ok (.iload_n 2, 1) := by decide +kernel
theorem dX9_plan_50 : decode cX9_plan 50 = .ok (.if_icmp .gt 43, 3) := by decide +kernel
theorem dX9_plan_53 : decode cX9_plan 53 = .ok (.iload 5, 2) := by decide +kernel
theorem dX9_plan_55 : decode cX9_plan 55 = .ok (.bipush 8, 2) := by decide +kernel
theorem dX9_plan_57 : decode cX9_plan 57 = .ok (.if_icmp .ge 36, 3) := by decide +kernel
theorem dX9_plan_60 : decode cX9_plan 60 = .ok (.iload 4, 2) := by decide +kernel
theorem dX9_plan_62 : decode cX9_plan 62 = .ok (.aload_n 0, 1) := by decide +kernel
theorem dX9_plan_63 : decode cX9_plan 63 = .ok (.getfield 22, 3) := by decide +kernel
theorem dX9_plan_66 : decode cX9_plan 66 = .ok (.iload_n 1, 1) := by decide +kernel
theorem dX9_plan_67 : decode cX9_plan 67 = .ok (.iaload, 1) := by decide +kernel
theorem dX9_plan_68 : decode cX9_plan 68 = .ok (.iload 5, 2) := by decide +kernel
theorem dX9_plan_70 : decode cX9_plan 70 = .ok (.invokestatic 189, 3) := by decide +kernel
theorem dX9_plan_73 : decode cX9_plan 73 = .ok (.ifCond .eq 7, 3) := by decide +kernel
theorem dX9_plan_76 : decode cX9_plan 76 = .ok (.iconst 0, 1) := by decide +kernel
theorem dX9_plan_77 : decode cX9_plan 77 = .ok (.goto 7, 3) := by decide +kernel
theorem dX9_plan_80 : decode cX9_plan 80 = .ok (.iconst 1, 1) := by decide +kernel
theorem dX9_plan_81 : decode cX9_plan 81 = .ok (.iload 5, 2) := by decide +kernel
theorem dX9_plan_83 : decode cX9_plan 83 = .ok (.ishl, 1) := by decide +kernel
theorem dX9_plan_84 : decode cX9_plan 84 = .ok (.ior, 1) := by decide +kernel
theorem dX9_plan_85 : decode cX9_plan 85 = .ok (.istore 4, 2) := by decide +kernel
theorem dX9_plan_87 : decode cX9_plan 87 = .ok (.iinc 5 1, 3) := by decide +kernel
theorem dX9_plan_90 : decode cX9_plan 90 = .ok (.goto (-43), 3) := by decide +kernel
theorem dX9_plan_93 : decode cX9_plan 93 = .ok (.iconst 0, 1) := by decide +kernel
theorem dX9_plan_94 : decode cX9_plan 94 = .ok (.istore 5, 2) := by decide +kernel
theorem dX9_plan_96 : decode cX9_plan 96 = .ok (.iload 5, 2) := by decide +kernel
theorem dX9_plan_98 : decode cX9_plan 98 = .ok (.bipush 24, 2) := by decide +kernel
theorem dX9_plan_100 : decode cX9_plan 100 = .ok (.if_icmp .ge 63, 3) := by decide +kernel
theorem dX9_plan_103 : decode cX9_plan 103 = .ok (.aload_n 0, 1) := by decide +kernel
theorem dX9_plan_104 : decode cX9_plan 104 = .ok (.getfield 53, 3) := by decide +kernel
theorem dX9_plan_107 : decode cX9_plan 107 = .ok (.iload 5, 2) := by decide +kernel
theorem dX9_plan_109 : decode cX9_plan 109 = .ok (.iconst 0, 1) := by decide +kernel
theorem dX9_plan_110 : decode cX9_plan 110 = .ok (.iastore, 1) := by decide +kernel
theorem dX9_plan_111 : decode cX9_plan 111 = .ok (.iconst 0, 1) := by decide +kernel
theorem dX9_plan_112 : decode cX9_plan 112 = .ok (.istore 6, 2) := by decide +kernel
theorem dX9_plan_114 : decode cX9_plan 114 = .ok (.iload 6, 2) := by decide +kernel
theorem dX9_plan_116 : decode cX9_plan 116 = .ok (.bipush 8, 2) := by decide +kernel
theorem dX9_plan_118 : decode cX9_plan 118 = .ok (.if_icmp .ge 39, 3) := by decide +kernel
theorem dX9_plan_121 : decode cX9_plan 121 = .ok (.aload_n 0, 1) := by decide +kernel
theorem dX9_plan_122 : decode cX9_plan 122 = .ok (.getfield 53, 3) := by decide +kernel
theorem dX9_plan_125 : decode cX9_plan 125 = .ok (.iload 5, 2) := by decide +kernel
theorem dX9_plan_127 : decode cX9_plan 127 = .ok (.dup2, 1) := by decide +kernel
theorem dX9_plan_128 : decode cX9_plan 128 = .ok (.iaload, 1) := by decide +kernel
theorem dX9_plan_129 : decode cX9_plan 129 = .ok (.aload_n 0, 1) := by decide +kernel
theorem dX9_plan_130 : decode cX9_plan 130 = .ok (.iload_n 1, 1) := by decide +kernel
theorem dX9_plan_131 : decode cX9_plan 131 = .ok (.iload 6, 2) := by decide +kernel
theorem dX9_plan_133 : decode cX9_plan 133 = .ok (.iload 5, 2) := by decide +kernel
theorem dX9_plan_135 : decode cX9_plan 135 = .ok (.invokevirtual 213, 3) := by decide +kernel
theorem dX9_plan_138 : decode cX9_plan 138 = .ok (.ifCond .eq 10, 3) := by decide +kernel
theorem dX9_plan_141 : decode cX9_plan 141 = .ok (.iconst 1, 1) := by decide +kernel
theorem dX9_plan_142 : decode cX9_plan 142 = .ok (.iload 6, 2) := by decide +kernel
theorem dX9_plan_144 : decode cX9_plan 144 = .ok (.ishl, 1) := by decide +kernel
theorem dX9_plan_145 : decode cX9_plan 145 = .ok (.goto 4, 3) := by decide +kernel
theorem dX9_plan_148 : decode cX9_plan 148 = .ok (.iconst 0, 1) := by decide +kernel
theorem dX9_plan_149 : decode cX9_plan 149 = .ok (.ior, 1) := by decide +kernel
theorem dX9_plan_150 : decode cX9_plan 150 = .ok (.iastore, 1) := by decide +kernel
theorem dX9_plan_151 : decode cX9_plan 151 = .ok (.iinc 6 1, 3) := by decide +kernel
theorem dX9_plan_154 : decode cX9_plan 154 = .ok (.goto (-40), 3) := by decide +kernel
theorem dX9_plan_157 : decode cX9_plan 157 = .ok (.iinc 5 1, 3) := by decide +kernel
theorem dX9_plan_160 : decode cX9_plan 160 = .ok (.goto (-64), 3) := by decide +kernel
theorem dX9_plan_163 : decode cX9_plan 163 = .ok (.iconst 0, 1) := by decide +kernel
theorem dX9_plan_164 : decode cX9_plan 164 = .ok (.istore 5, 2) := by decide +kernel
theorem dX9_plan_166 : decode cX9_plan 166 = .ok (.aload_n 0, 1) := by decide +kernel
theorem dX9_plan_167 : decode cX9_plan 167 = .ok (.iconst 0, 1) := by decide +kernel
theorem dX9_plan_168 : decode cX9_plan 168 = .ok (.invokevirtual 247, 3) := by decide +kernel
theorem dX9_plan_171 : decode cX9_plan 171 = .ok (.iload 5, 2) := by decide +kernel
theorem dX9_plan_173 : decode cX9_plan 173 = .ok (.bipush 40, 2) := by decide +kernel
theorem dX9_plan_175 : decode cX9_plan 175 = .ok (.if_icmp .ge 25, 3) := by decide +kernel
theorem dX9_plan_178 : decode cX9_plan 178 = .ok (.aload_n 0, 1) := by decide +kernel
theorem dX9_plan_179 : decode cX9_plan 179 = .ok (.iconst 0, 1) := by decide +kernel
theorem dX9_plan_180 : decode cX9_plan 180 = .ok (.iload 4, 2) := by decide +kernel
theorem dX9_plan_182 : decode cX9_plan 182 = .ok (.invokevirtual 244, 3) := by decide +kernel
theorem dX9_plan_185 : decode cX9_plan 185 = .ok (.ifCond .ne 15, 3) := by decide +kernel
theorem dX9_plan_188 : decode cX9_plan 188 = .ok (.iinc 5 1, 3) := by decide +kernel
theorem dX9_plan_191 : decode cX9_plan 191 = .ok (.aload_n 0, 1) := by decide +kernel
theorem dX9_plan_192 : decode cX9_plan 192 = .ok (.iload 5, 2) := by decide +kernel
theorem dX9_plan_194 : decode cX9_plan 194 = .ok (.invokevirtual 247, 3) := by decide +kernel
theorem dX9_plan_197 : decode cX9_plan 197 = .ok (.goto (-26), 3) := by decide +kernel
theorem dX9_plan_200 : decode cX9_plan 200 = .ok (.aload_n 0, 1) := by decide +kernel
theorem dX9_plan_201 : decode cX9_plan 201 = .ok (.iconst 0, 1) := by decide +kernel
theorem dX9_plan_202 : decode cX9_plan 202 = .ok (.iload 4, 2) := by decide +kernel
theorem dX9_plan_204 : decode cX9_plan 204 = .ok (.invokevirtual 244, 3) := by decide +kernel
theorem dX9_plan_207 : decode cX9_plan 207 = .ok (.ifCond .ne 6, 3) := by decide +kernel
theorem dX9_plan_210 : decode cX9_plan 210 = .ok (.bipush (-6), 2) := by decide +kernel
theorem dX9_plan_212 : decode cX9_plan 212 = .ok (.ireturn, 1) := by decide +kernel
theorem dX9_plan_213 : decode cX9_plan 213 = .ok (.iload_n 3, 1) := by decide +kernel
theorem dX9_plan_214 : decode cX9_plan 214 = .ok (.ifCond .lt 9, 3) := by decide +kernel
theorem dX9_plan_217 : decode cX9_plan 217 = .ok (.iload_n 3, 1) := by decide +kernel
theorem dX9_plan_218 : decode cX9_plan 218 = .ok (.iload 5, 2) := by decide +kernel
theorem dX9_plan_220 : decode cX9_plan 220 = .ok (.if_icmp .lt 15, 3) := by decide +kernel
theorem dX9_plan_223 : decode cX9_plan 223 = .ok (.iload_n 3, 1) := by decide +kernel
theorem dX9_plan_224 : decode cX9_plan 224 = .ok (.ifCond .ge 8, 3) := by decide +kernel
theorem dX9_plan_227 : decode cX9_plan 227 = .ok (.iload 5, 2) := by decide +kernel
theorem dX9_plan_229 : decode cX9_plan 229 = .ok (.goto 5, 3) := by decide +kernel
theorem dX9_plan_232 : decode cX9_plan 232 = .ok (.bipush (-5), 2) := by decide +kernel
theorem dX9_plan_234 : decode cX9_plan 234 = .ok (.ireturn, 1) := by decide +kernel
theorem dX9_plan_235 : decode cX9_plan 235 = .ok (.iconst (-1), 1) := by decide +kernel
theorem dX9_plan_236 : decode cX9_plan 236 = .ok (.istore 6, 2) := by decide +kernel
theorem dX9_plan_238 : decode cX9_plan 238 = .ok (.iconst 0, 1) := by decide +kernel
theorem dX9_plan_239 : decode cX9_plan 239 = .ok (.istore 7, 2) := by decide +kernel
theorem dX9_plan_241 : decode cX9_plan 241 = .ok (.iload 7, 2) := by decide +kernel
theorem dX9_plan_243 : decode cX9_plan 243 = .ok (.iload_n 3, 1) := by decide +kernel
theorem dX9_plan_244 : decode cX9_plan 244 = .ok (.if_icmp .gt 40, 3) := by decide +kernel
theorem dX9_plan_247 : decode cX9_plan 247 = .ok (.aload_n 0, 1) := by decide +kernel
theorem dX9_plan_248 : decode cX9_plan 248 = .ok (.iload 7, 2) := by decide +kernel
theorem dX9_plan_250 : decode cX9_plan 250 = .ok (.iload 4, 2) := by decide +kernel
theorem dX9_plan_252 : decode cX9_plan 252 = .ok (.invokevirtual 250, 3) := by decide +kernel
theorem dX9_plan_255 : decode cX9_plan 255 = .ok (.istore 6, 2) := by decide +kernel
theorem dX9_plan_257 : decode cX9_plan 257 = .ok (.iload 4, 2) := by decide +kernel
theorem dX9_plan_259 : decode cX9_plan 259 = .ok (.iload 6, 2) := by decide +kernel
theorem dX9_plan_261 : decode cX9_plan 261 = .ok (.iconst (-1), 1) := by decide +kernel
theorem dX9_plan_262 : decode cX9_plan 262 = .ok (.if_icmp .ne 7, 3) := by decide +kernel
theorem dX9_plan_265 : decode cX9_plan 265 = .ok (.iconst (-1), 1) := by decide +kernel
theorem dX9_plan_266 : decode cX9_plan 266 = .ok (.goto 9, 3) := by decide +kernel
theorem dX9_plan_269 : decode cX9_plan 269 = .ok (.iconst 1, 1) := by decide +kernel
theorem dX9_plan_270 : decode cX9_plan 270 = .ok (.iload 6, 2) := by decide +kernel
theorem dX9_plan_272 : decode cX9_plan 272 = .ok (.ishl, 1) := by decide +kernel
theorem dX9_plan_273 : decode cX9_plan 273 = .ok (.iconst (-1), 1) := by decide +kernel
theorem dX9_plan_274 : decode cX9_plan 274 = .ok (.ixor, 1) := by decide +kernel
theorem dX9_plan_275 : decode cX9_plan 275 = .ok (.iand, 1) := by decide +kernel
theorem dX9_plan_276 : decode cX9_plan 276 = .ok (.istore 4, 2) := by decide +kernel
theorem dX9_plan_278 : decode cX9_plan 278 = .ok (.iinc 7 1, 3) := by decide +kernel
theorem dX9_plan_281 : decode cX9_plan 281 = .ok (.goto (-40), 3) := by decide +kernel
theorem dX9_plan_284 : decode cX9_plan 284 = .ok (.iload 6, 2) := by decide +kernel
theorem dX9_plan_286 : decode cX9_plan 286 = .ok (.ireturn, 1) := by decide +kernel
theorem dX9_seen_0 : decode cX9_seen 0 = .ok (.aload_n 0, 1) := by decide +kernel
theorem dX9_seen_1 : decode cX9_seen 1 = .ok (.iload_n 1, 1) := by decide +kernel
theorem dX9_seen_2 : decode cX9_seen 2 = .ok (.invokevirtual 216, 3) := by decide +kernel
theorem dX9_seen_5 : decode cX9_seen 5 = .ok (.ifCond .eq 19, 3) := by decide +kernel
theorem dX9_seen_8 : decode cX9_seen 8 = .ok (.iload_n 2, 1) := by decide +kernel
theorem dX9_seen_9 : decode cX9_seen 9 = .ok (.invokestatic 219, 3) := by decide +kernel
theorem dX9_seen_12 : decode cX9_seen 12 = .ok (.ifCond .eq 12, 3) := by decide +kernel
theorem dX9_seen_15 : decode cX9_seen 15 = .ok (.iload_n 3, 1) := by decide +kernel
theorem dX9_seen_16 : decode cX9_seen 16 = .ok (.iconst 0, 1) := by decide +kernel
theorem dX9_seen_17 : decode cX9_seen 17 = .ok (.iconst 1, 1) := by decide +kernel
theorem dX9_seen_18 : decode cX9_seen 18 = .ok (.invokestatic 91, 3) := by decide +kernel
theorem dX9_seen_21 : decode cX9_seen 21 = .ok (.ifCond .ne 8, 3) := by decide +kernel
theorem dX9_seen_24 : decode cX9_seen 24 = .ok (.aload_n 0, 1) := by decide +kernel
theorem dX9_seen_25 : decode cX9_seen 25 = .ok (.invokevirtual 95, 3) := by decide +kernel
theorem dX9_seen_28 : decode cX9_seen 28 = .ok (.ireturn, 1) := by decide +kernel
theorem dX9_seen_29 : decode cX9_seen 29 = .ok (.aload_n 0, 1) := by decide +kernel
theorem dX9_seen_30 : decode cX9_seen 30 = .ok (.getfield 79, 3) := by decide +kernel
theorem dX9_seen_33 : decode cX9_seen 33 = .ok (.bipush 6, 2) := by decide +kernel
theorem dX9_seen_35 : decode cX9_seen 35 = .ok (.if_icmp .ne 8, 3) := by decide +kernel
theorem dX9_seen_38 : decode cX9_seen 38 = .ok (.aload_n 0, 1) := by decide +kernel
theorem dX9_seen_39 : decode cX9_seen 39 = .ok (.invokevirtual 99, 3) := by decide +kernel
theorem dX9_seen_42 : decode cX9_seen 42 = .ok (.ireturn, 1) := by decide +kernel
theorem dX9_seen_43 : decode cX9_seen 43 = .ok (.aload_n 0, 1) := by decide +kernel
theorem dX9_seen_44 : decode cX9_seen 44 = .ok (.getfield 28, 3) := by decide +kernel
theorem dX9_seen_47 : decode cX9_seen 47 = .ok (.iconst 3, 1) := by decide +kernel
theorem dX9_seen_48 : decode cX9_seen 48 = .ok (.aload_n 0, 1) := by decide +kernel
theorem dX9_seen_49 : decode cX9_seen 49 = .ok (.getfield 79, 3) := by decide +kernel
theorem dX9_seen_52 : decode cX9_seen 52 = .ok (.imul, 1) := by decide +kernel
theorem dX9_seen_53 : decode cX9_seen 53 = .ok (.iload_n 1, 1) := by decide +kernel
theorem dX9_seen_54 : decode cX9_seen 54 = .ok (.iastore, 1) := by decide +kernel
theorem dX9_seen_55 : decode cX9_seen 55 = .ok (.aload_n 0, 1) := by decide +kernel
theorem dX9_seen_56 : decode cX9_seen 56 = .ok (.getfield 28, 3) := by decide +kernel
theorem dX9_seen_59 : decode cX9_seen 59 = .ok (.iconst 3, 1) := by decide +kernel
theorem dX9_seen_60 : decode cX9_seen 60 = .ok (.aload_n 0, 1) := by decide +kernel
theorem dX9_seen_61 : decode cX9_seen 61 = .ok (.getfield 79, 3) := by decide +kernel
theorem dX9_seen_64 : decode cX9_seen 64 = .ok (.imul, 1) := by decide +kernel
theorem dX9_seen_65 : decode cX9_seen 65 = .ok (.iconst 1, 1) := by decide +kernel
theorem dX9_seen_66 : decode cX9_seen 66 = .ok (.iadd, 1) := by decide +kernel
theorem dX9_seen_67 : decode cX9_seen 67 = .ok (.iload_n 2, 1) := by decide +kernel
theorem dX9_seen_68 : decode cX9_seen 68 = .ok (.iastore, 1) := by decide +kernel
theorem dX9_seen_69 : decode cX9_seen 69 = .ok (.aload_n 0, 1) := by decide +kernel
theorem dX9_seen_70 : decode cX9_seen 70 = .ok (.getfield 28, 3) := by decide +kernel
theorem dX9_seen_73 : decode cX9_seen 73 = .ok (.iconst 3, 1) := by decide +kernel
theorem dX9_seen_74 : decode cX9_seen 74 = .ok (.aload_n 0, 1) := by decide +kernel
theorem dX9_seen_75 : decode cX9_seen 75 = .ok (.getfield 79, 3) := by decide +kernel
theorem dX9_seen_78 : decode cX9_seen 78 = .ok (.imul, 1) := by decide +kernel
theorem dX9_seen_79 : decode cX9_seen 79 = .ok (.iconst 2, 1) := by decide +kernel
theorem dX9_seen_80 : decode cX9_seen 80 = .ok (.iadd, 1) := by decide +kernel
theorem dX9_seen_81 : decode cX9_seen 81 = .ok (.iload_n 3, 1) := by decide +kernel
theorem dX9_seen_82 : decode cX9_seen 82 = .ok (.iastore, 1) := by decide +kernel
theorem dX9_seen_83 : decode cX9_seen 83 = .ok (.aload_n 0, 1) := by decide +kernel
theorem dX9_seen_84 : decode cX9_seen 84 = .ok (.dup, 1) := by decide +kernel
theorem dX9_seen_85 : decode cX9_seen 85 = .ok (.getfield 79, 3) := by decide +kernel
theorem dX9_seen_88 : decode cX9_seen 88 = .ok (.iconst 1, 1) := by decide +kernel
theorem dX9_seen_89 : decode cX9_seen 89 = .ok (.iadd, 1) := by decide +kernel
theorem dX9_seen_90 : decode cX9_seen 90 = .ok (.putfield 79, 3) := by decide +kernel
theorem dX9_seen_93 : decode cX9_seen 93 = .ok (.aload_n 0, 1) := by decide +kernel
theorem dX9_seen_94 : decode cX9_seen 94 = .ok (.getfield 79, 3) := by decide +kernel
theorem dX9_seen_97 : decode cX9_seen 97 = .ok (.ireturn, 1) := by decide +kernel
theorem dX9_mayKnow_0 : decode cX9_mayKnow 0 = .ok (.iconst 1, 1) := by decide +kernel
theorem dX9_mayKnow_1 : decode cX9_mayKnow 1 = .ok (.istore_n 3, 1) := by decide +kernel
theorem dX9_mayKnow_2 : decode cX9_mayKnow 2 = .ok (.iconst 0, 1) := by decide +kernel
theorem dX9_mayKnow_3 : decode cX9_mayKnow 3 = .ok (.istore 4, 2) := by decide +kernel
theorem dX9_mayKnow_5 : decode cX9_mayKnow 5 = .ok (.iload 4, 2) := by decide +kernel
theorem dX9_mayKnow_7 : decode cX9_mayKnow 7 = .ok (.iconst 3, 1) := by decide +kernel
theorem dX9_mayKnow_8 : decode cX9_mayKnow 8 = .ok (.aload_n 0, 1) := by decide +kernel
theorem dX9_mayKnow_9 : decode cX9_mayKnow 9 = .ok (.getfield 79, 3) := by decide +kernel
theorem dX9_mayKnow_12 : decode cX9_mayKnow 12 = .ok (.imul, 1) := by decide +kernel
theorem dX9_mayKnow_13 : decode cX9_mayKnow 13 = .ok (.if_icmp .ge 96, 3) := by decide +kernel
theorem dX9_mayKnow_16 : decode cX9_mayKnow 16 = .ok (.aload_n 0, 1) := by decide +kernel
theorem dX9_mayKnow_17 : decode cX9_mayKnow 17 = .ok (.getfield 28, 3) := by decide +kernel
theorem dX9_mayKnow_20 : decode cX9_mayKnow 20 = .ok (.iload 4, 2) := by decide +kernel
theorem dX9_mayKnow_22 : decode cX9_mayKnow 22 = .ok (.iconst 1, 1) := by decide +kernel
theorem dX9_mayKnow_23 : decode cX9_mayKnow 23 = .ok (.iadd, 1) := by decide +kernel
theorem dX9_mayKnow_24 : decode cX9_mayKnow 24 = .ok (.iaload, 1) := by decide +kernel
theorem dX9_mayKnow_25 : decode cX9_mayKnow 25 = .ok (.istore 5, 2) := by decide +kernel
theorem dX9_mayKnow_27 : decode cX9_mayKnow 27 = .ok (.iconst 1, 1) := by decide +kernel
theorem dX9_mayKnow_28 : decode cX9_mayKnow 28 = .ok (.iload 5, 2) := by decide +kernel
theorem dX9_mayKnow_30 : decode cX9_mayKnow 30 = .ok (.ishl, 1) := by decide +kernel
theorem dX9_mayKnow_31 : decode cX9_mayKnow 31 = .ok (.iconst 1, 1) := by decide +kernel
theorem dX9_mayKnow_32 : decode cX9_mayKnow 32 = .ok (.isub, 1) := by decide +kernel
theorem dX9_mayKnow_33 : decode cX9_mayKnow 33 = .ok (.istore 6, 2) := by decide +kernel
theorem dX9_mayKnow_35 : decode cX9_mayKnow 35 = .ok (.iload 6, 2) := by decide +kernel
theorem dX9_mayKnow_37 : decode cX9_mayKnow 37 = .ok (.iload_n 2, 1) := by decide +kernel
theorem dX9_mayKnow_38 : decode cX9_mayKnow 38 = .ok (.iconst (-1), 1) := by decide +kernel
theorem dX9_mayKnow_39 : decode cX9_mayKnow 39 = .ok (.ixor, 1) := by decide +kernel
theorem dX9_mayKnow_40 : decode cX9_mayKnow 40 = .ok (.iand, 1) := by decide +kernel
theorem dX9_mayKnow_41 : decode cX9_mayKnow 41 = .ok (.ifCond .ne 33, 3) := by decide +kernel
theorem dX9_mayKnow_44 : decode cX9_mayKnow 44 = .ok (.iload_n 2, 1) := by decide +kernel
theorem dX9_mayKnow_45 : decode cX9_mayKnow 45 = .ok (.iload 5, 2) := by decide +kernel
theorem dX9_mayKnow_47 : decode cX9_mayKnow 47 = .ok (.invokestatic 189, 3) := by decide +kernel
theorem dX9_mayKnow_50 : decode cX9_mayKnow 50 = .ok (.aload_n 0, 1) := by decide +kernel
theorem dX9_mayKnow_51 : decode cX9_mayKnow 51 = .ok (.getfield 28, 3) := by decide +kernel
theorem dX9_mayKnow_54 : decode cX9_mayKnow 54 = .ok (.iload 4, 2) := by decide +kernel
theorem dX9_mayKnow_56 : decode cX9_mayKnow 56 = .ok (.iconst 2, 1) := by decide +kernel
theorem dX9_mayKnow_57 : decode cX9_mayKnow 57 = .ok (.iadd, 1) := by decide +kernel
theorem dX9_mayKnow_58 : decode cX9_mayKnow 58 = .ok (.iaload, 1) := by decide +kernel
theorem dX9_mayKnow_59 : decode cX9_mayKnow 59 = .ok (.ifCond .ne 7, 3) := by decide +kernel
theorem dX9_mayKnow_62 : decode cX9_mayKnow 62 = .ok (.iconst 1, 1) := by decide +kernel
theorem dX9_mayKnow_63 : decode cX9_mayKnow 63 = .ok (.goto 4, 3) := by decide +kernel
theorem dX9_mayKnow_66 : decode cX9_mayKnow 66 = .ok (.iconst 0, 1) := by decide +kernel
theorem dX9_mayKnow_67 : decode cX9_mayKnow 67 = .ok (.if_icmp .ne 7, 3) := by decide +kernel
theorem dX9_mayKnow_70 : decode cX9_mayKnow 70 = .ok (.iconst 1, 1) := by decide +kernel
theorem dX9_mayKnow_71 : decode cX9_mayKnow 71 = .ok (.goto 4, 3) := by decide +kernel
theorem dX9_mayKnow_74 : decode cX9_mayKnow 74 = .ok (.iconst 0, 1) := by decide +kernel
theorem dX9_mayKnow_75 : decode cX9_mayKnow 75 = .ok (.istore 7, 2) := by decide +kernel
theorem dX9_mayKnow_77 : decode cX9_mayKnow 77 = .ok (.iload_n 3, 1) := by decide +kernel
theorem dX9_mayKnow_78 : decode cX9_mayKnow 78 = .ok (.ifCond .eq 23, 3) := by decide +kernel
theorem dX9_mayKnow_81 : decode cX9_mayKnow 81 = .ok (.aload_n 0, 1) := by decide +kernel
theorem dX9_mayKnow_82 : decode cX9_mayKnow 82 = .ok (.getfield 28, 3) := by decide +kernel
theorem dX9_mayKnow_85 : decode cX9_mayKnow 85 = .ok (.iload 4, 2) := by decide +kernel
theorem dX9_mayKnow_87 : decode cX9_mayKnow 87 = .ok (.iaload, 1) := by decide +kernel
theorem dX9_mayKnow_88 : decode cX9_mayKnow 88 = .ok (.iload_n 1, 1) := by decide +kernel
theorem dX9_mayKnow_89 : decode cX9_mayKnow 89 = .ok (.if_icmp .ne 8, 3) := by decide +kernel
theorem dX9_mayKnow_92 : decode cX9_mayKnow 92 = .ok (.iload 7, 2) := by decide +kernel
theorem dX9_mayKnow_94 : decode cX9_mayKnow 94 = .ok (.ifCond .eq 7, 3) := by decide +kernel
theorem dX9_mayKnow_97 : decode cX9_mayKnow 97 = .ok (.iconst 1, 1) := by decide +kernel
theorem dX9_mayKnow_98 : decode cX9_mayKnow 98 = .ok (.goto 4, 3) := by decide +kernel
theorem dX9_mayKnow_101 : decode cX9_mayKnow 101 = .ok (.iconst 0, 1) := by decide +kernel
theorem dX9_mayKnow_102 : decode cX9_mayKnow 102 = .ok (.istore_n 3, 1) := by decide +kernel
theorem dX9_mayKnow_103 : decode cX9_mayKnow 103 = .ok (.iinc 4 3, 3) := by decide +kernel
theorem dX9_mayKnow_106 : decode cX9_mayKnow 106 = .ok (.goto (-101), 3) := by decide +kernel
theorem dX9_mayKnow_109 : decode cX9_mayKnow 109 = .ok (.iload_n 3, 1) := by decide +kernel
theorem dX9_mayKnow_110 : decode cX9_mayKnow 110 = .ok (.ireturn, 1) := by decide +kernel
theorem dX9_may_0 : decode cX9_may 0 = .ok (.aload_n 0, 1) := by decide +kernel
theorem dX9_may_1 : decode cX9_may 1 = .ok (.iload_n 1, 1) := by decide +kernel
theorem dX9_may_2 : decode cX9_may 2 = .ok (.invokevirtual 216, 3) := by decide +kernel
theorem dX9_may_5 : decode cX9_may 5 = .ok (.ifCond .eq 12, 3) := by decide +kernel
theorem dX9_may_8 : decode cX9_may 8 = .ok (.iload_n 2, 1) := by decide +kernel
theorem dX9_may_9 : decode cX9_may 9 = .ok (.iconst 0, 1) := by decide +kernel
theorem dX9_may_10 : decode cX9_may 10 = .ok (.iconst 2, 1) := by decide +kernel
theorem dX9_may_11 : decode cX9_may 11 = .ok (.invokestatic 91, 3) := by decide +kernel
theorem dX9_may_14 : decode cX9_may 14 = .ok (.ifCond .ne 8, 3) := by decide +kernel
theorem dX9_may_17 : decode cX9_may 17 = .ok (.aload_n 0, 1) := by decide +kernel
theorem dX9_may_18 : decode cX9_may 18 = .ok (.invokevirtual 95, 3) := by decide +kernel
theorem dX9_may_21 : decode cX9_may 21 = .ok (.ireturn, 1) := by decide +kernel
theorem dX9_may_22 : decode cX9_may 22 = .ok (.iconst 0, 1) := by decide +kernel
theorem dX9_may_23 : decode cX9_may 23 = .ok (.istore_n 3, 1) := by decide +kernel
theorem dX9_may_24 : decode cX9_may 24 = .ok (.sipush 255, 3) := by decide +kernel
theorem dX9_may_27 : decode cX9_may 27 = .ok (.istore 4, 2) := by decide +kernel
theorem dX9_may_29 : decode cX9_may 29 = .ok (.iconst 0, 1) := by decide +kernel
theorem dX9_may_30 : decode cX9_may 30 = .ok (.istore 5, 2) := by decide +kernel
theorem dX9_may_32 : decode cX9_may 32 = .ok (.iconst 0, 1) := by decide +kernel
theorem dX9_may_33 : decode cX9_may 33 = .ok (.istore 6, 2) := by decide +kernel
theorem dX9_may_35 : decode cX9_may 35 = .ok (.iload 6, 2) := by decide +kernel
theorem dX9_may_37 : decode cX9_may 37 = .ok (.sipush 256, 3) := by decide +kernel
theorem dX9_may_40 : decode cX9_may 40 = .ok (.if_icmp .ge 36, 3) := by decide +kernel
theorem dX9_may_43 : decode cX9_may 43 = .ok (.aload_n 0, 1) := by decide +kernel
theorem dX9_may_44 : decode cX9_may 44 = .ok (.iload_n 1, 1) := by decide +kernel
theorem dX9_may_45 : decode cX9_may 45 = .ok (.iload 6, 2) := by decide +kernel
theorem dX9_may_47 : decode cX9_may 47 = .ok (.invokevirtual 253, 3) := by decide +kernel
theorem dX9_may_50 : decode cX9_may 50 = .ok (.ifCond .eq 20, 3) := by decide +kernel
theorem dX9_may_53 : decode cX9_may 53 = .ok (.iinc 3 1, 3) := by decide +kernel
theorem dX9_may_56 : decode cX9_may 56 = .ok (.iload 4, 2) := by decide +kernel
theorem dX9_may_58 : decode cX9_may 58 = .ok (.iload 6, 2) := by decide +kernel
theorem dX9_may_60 : decode cX9_may 60 = .ok (.iand, 1) := by decide +kernel
theorem dX9_may_61 : decode cX9_may 61 = .ok (.istore 4, 2) := by decide +kernel
theorem dX9_may_63 : decode cX9_may 63 = .ok (.iload 5, 2) := by decide +kernel
theorem dX9_may_65 : decode cX9_may 65 = .ok (.iload 6, 2) := by decide +kernel
theorem dX9_may_67 : decode cX9_may 67 = .ok (.ior, 1) := by decide +kernel
theorem dX9_may_68 : decode cX9_may 68 = .ok (.istore 5, 2) := by decide +kernel
theorem dX9_may_70 : decode cX9_may 70 = .ok (.iinc 6 1, 3) := by decide +kernel
theorem dX9_may_73 : decode cX9_may 73 = .ok (.goto (-38), 3) := by decide +kernel
theorem dX9_may_76 : decode cX9_may 76 = .ok (.iload_n 2, 1) := by decide +kernel
theorem dX9_may_77 : decode cX9_may 77 = .ok (.ifCond .ne 7, 3) := by decide +kernel
theorem dX9_may_80 : decode cX9_may 80 = .ok (.iload_n 3, 1) := by decide +kernel
theorem dX9_may_81 : decode cX9_may 81 = .ok (.goto 23, 3) := by decide +kernel
theorem dX9_may_84 : decode cX9_may 84 = .ok (.iload_n 2, 1) := by decide +kernel
theorem dX9_may_85 : decode cX9_may 85 = .ok (.iconst 2, 1) := by decide +kernel
theorem dX9_may_86 : decode cX9_may 86 = .ok (.if_icmp .ne 8, 3) := by decide +kernel
theorem dX9_may_89 : decode cX9_may 89 = .ok (.iload 5, 2) := by decide +kernel
theorem dX9_may_91 : decode cX9_may 91 = .ok (.goto 13, 3) := by decide +kernel
theorem dX9_may_94 : decode cX9_may 94 = .ok (.iload_n 3, 1) := by decide +kernel
theorem dX9_may_95 : decode cX9_may 95 = .ok (.ifCond .ne 7, 3) := by decide +kernel
theorem dX9_may_98 : decode cX9_may 98 = .ok (.iconst (-1), 1) := by decide +kernel
theorem dX9_may_99 : decode cX9_may 99 = .ok (.goto 5, 3) := by decide +kernel
theorem dX9_may_102 : decode cX9_may 102 = .ok (.iload 4, 2) := by decide +kernel
theorem dX9_may_104 : decode cX9_may 104 = .ok (.ireturn, 1) := by decide +kernel
theorem dX9_note_0 : decode cX9_note 0 = .ok (.iload_n 1, 1) := by decide +kernel
theorem dX9_note_1 : decode cX9_note 1 = .ok (.invokestatic 219, 3) := by decide +kernel
theorem dX9_note_4 : decode cX9_note 4 = .ok (.ifCond .eq 34, 3) := by decide +kernel
theorem dX9_note_7 : decode cX9_note 7 = .ok (.iload_n 2, 1) := by decide +kernel
theorem dX9_note_8 : decode cX9_note 8 = .ok (.iconst 1, 1) := by decide +kernel
theorem dX9_note_9 : decode cX9_note 9 = .ok (.bipush 12, 2) := by decide +kernel
theorem dX9_note_11 : decode cX9_note 11 = .ok (.invokestatic 91, 3) := by decide +kernel
theorem dX9_note_14 : decode cX9_note 14 = .ok (.ifCond .eq 24, 3) := by decide +kernel
theorem dX9_note_17 : decode cX9_note 17 = .ok (.iload_n 3, 1) := by decide +kernel
theorem dX9_note_18 : decode cX9_note 18 = .ok (.iconst 0, 1) := by decide +kernel
theorem dX9_note_19 : decode cX9_note 19 = .ok (.bipush 23, 2) := by decide +kernel
theorem dX9_note_21 : decode cX9_note 21 = .ok (.invokestatic 91, 3) := by decide +kernel
theorem dX9_note_24 : decode cX9_note 24 = .ok (.ifCond .eq 14, 3) := by decide +kernel
theorem dX9_note_27 : decode cX9_note 27 = .ok (.iload 4, 2) := by decide +kernel
theorem dX9_note_29 : decode cX9_note 29 = .ok (.iconst 0, 1) := by decide +kernel
theorem dX9_note_30 : decode cX9_note 30 = .ok (.bipush 9, 2) := by decide +kernel
theorem dX9_note_32 : decode cX9_note 32 = .ok (.invokestatic 91, 3) := by decide +kernel
theorem dX9_note_35 : decode cX9_note 35 = .ok (.ifCond .ne 8, 3) := by decide +kernel
theorem dX9_note_38 : decode cX9_note 38 = .ok (.aload_n 0, 1) := by decide +kernel
theorem dX9_note_39 : decode cX9_note 39 = .ok (.invokevirtual 95, 3) := by decide +kernel
theorem dX9_note_42 : decode cX9_note 42 = .ok (.ireturn, 1) := by decide +kernel
theorem dX9_note_43 : decode cX9_note 43 = .ok (.aload_n 0, 1) := by decide +kernel
theorem dX9_note_44 : decode cX9_note 44 = .ok (.getfield 82, 3) := by decide +kernel
theorem dX9_note_47 : decode cX9_note 47 = .ok (.bipush 6, 2) := by decide +kernel
theorem dX9_note_49 : decode cX9_note 49 = .ok (.if_icmp .ne 8, 3) := by decide +kernel
theorem dX9_note_52 : decode cX9_note 52 = .ok (.aload_n 0, 1) := by decide +kernel
theorem dX9_note_53 : decode cX9_note 53 = .ok (.invokevirtual 99, 3) := by decide +kernel
theorem dX9_note_56 : decode cX9_note 56 = .ok (.ireturn, 1) := by decide +kernel
theorem dX9_note_57 : decode cX9_note 57 = .ok (.aload_n 0, 1) := by decide +kernel
theorem dX9_note_58 : decode cX9_note 58 = .ok (.getfield 31, 3) := by decide +kernel
theorem dX9_note_61 : decode cX9_note 61 = .ok (.iconst 4, 1) := by decide +kernel
theorem dX9_note_62 : decode cX9_note 62 = .ok (.aload_n 0, 1) := by decide +kernel
theorem dX9_note_63 : decode cX9_note 63 = .ok (.getfield 82, 3) := by decide +kernel
theorem dX9_note_66 : decode cX9_note 66 = .ok (.imul, 1) := by decide +kernel
theorem dX9_note_67 : decode cX9_note 67 = .ok (.iload_n 1, 1) := by decide +kernel
theorem dX9_note_68 : decode cX9_note 68 = .ok (.iastore, 1) := by decide +kernel
theorem dX9_note_69 : decode cX9_note 69 = .ok (.aload_n 0, 1) := by decide +kernel
theorem dX9_note_70 : decode cX9_note 70 = .ok (.getfield 31, 3) := by decide +kernel
theorem dX9_note_73 : decode cX9_note 73 = .ok (.iconst 4, 1) := by decide +kernel
theorem dX9_note_74 : decode cX9_note 74 = .ok (.aload_n 0, 1) := by decide +kernel
theorem dX9_note_75 : decode cX9_note 75 = .ok (.getfield 82, 3) := by decide +kernel
theorem dX9_note_78 : decode cX9_note 78 = .ok (.imul, 1) := by decide +kernel
theorem dX9_note_79 : decode cX9_note 79 = .ok (.iconst 1, 1) := by decide +kernel
theorem dX9_note_80 : decode cX9_note 80 = .ok (.iadd, 1) := by decide +kernel
theorem dX9_note_81 : decode cX9_note 81 = .ok (.iload_n 2, 1) := by decide +kernel
theorem dX9_note_82 : decode cX9_note 82 = .ok (.iastore, 1) := by decide +kernel
theorem dX9_note_83 : decode cX9_note 83 = .ok (.aload_n 0, 1) := by decide +kernel
theorem dX9_note_84 : decode cX9_note 84 = .ok (.getfield 31, 3) := by decide +kernel
theorem dX9_note_87 : decode cX9_note 87 = .ok (.iconst 4, 1) := by decide +kernel
theorem dX9_note_88 : decode cX9_note 88 = .ok (.aload_n 0, 1) := by decide +kernel
theorem dX9_note_89 : decode cX9_note 89 = .ok (.getfield 82, 3) := by decide +kernel
theorem dX9_note_92 : decode cX9_note 92 = .ok (.imul, 1) := by decide +kernel
theorem dX9_note_93 : decode cX9_note 93 = .ok (.iconst 2, 1) := by decide +kernel
theorem dX9_note_94 : decode cX9_note 94 = .ok (.iadd, 1) := by decide +kernel
theorem dX9_note_95 : decode cX9_note 95 = .ok (.iload_n 3, 1) := by decide +kernel
theorem dX9_note_96 : decode cX9_note 96 = .ok (.iastore, 1) := by decide +kernel
theorem dX9_note_97 : decode cX9_note 97 = .ok (.aload_n 0, 1) := by decide +kernel
theorem dX9_note_98 : decode cX9_note 98 = .ok (.getfield 31, 3) := by decide +kernel
theorem dX9_note_101 : decode cX9_note 101 = .ok (.iconst 4, 1) := by decide +kernel
theorem dX9_note_102 : decode cX9_note 102 = .ok (.aload_n 0, 1) := by decide +kernel
theorem dX9_note_103 : decode cX9_note 103 = .ok (.getfield 82, 3) := by decide +kernel
theorem dX9_note_106 : decode cX9_note 106 = .ok (.imul, 1) := by decide +kernel
theorem dX9_note_107 : decode cX9_note 107 = .ok (.iconst 3, 1) := by decide +kernel
theorem dX9_note_108 : decode cX9_note 108 = .ok (.iadd, 1) := by decide +kernel
theorem dX9_note_109 : decode cX9_note 109 = .ok (.iload 4, 2) := by decide +kernel
theorem dX9_note_111 : decode cX9_note 111 = .ok (.iastore, 1) := by decide +kernel
theorem dX9_note_112 : decode cX9_note 112 = .ok (.aload_n 0, 1) := by decide +kernel
theorem dX9_note_113 : decode cX9_note 113 = .ok (.dup, 1) := by decide +kernel
theorem dX9_note_114 : decode cX9_note 114 = .ok (.getfield 82, 3) := by decide +kernel
theorem dX9_note_117 : decode cX9_note 117 = .ok (.iconst 1, 1) := by decide +kernel
theorem dX9_note_118 : decode cX9_note 118 = .ok (.iadd, 1) := by decide +kernel
theorem dX9_note_119 : decode cX9_note 119 = .ok (.putfield 82, 3) := by decide +kernel
theorem dX9_note_122 : decode cX9_note 122 = .ok (.aload_n 0, 1) := by decide +kernel
theorem dX9_note_123 : decode cX9_note 123 = .ok (.getfield 82, 3) := by decide +kernel
theorem dX9_note_126 : decode cX9_note 126 = .ok (.ireturn, 1) := by decide +kernel
theorem dX9_mark_0 : decode cX9_mark 0 = .ok (.aload_n 0, 1) := by decide +kernel
theorem dX9_mark_1 : decode cX9_mark 1 = .ok (.iload_n 1, 1) := by decide +kernel
theorem dX9_mark_2 : decode cX9_mark 2 = .ok (.invokevirtual 216, 3) := by decide +kernel
theorem dX9_mark_5 : decode cX9_mark 5 = .ok (.ifCond .eq 34, 3) := by decide +kernel
theorem dX9_mark_8 : decode cX9_mark 8 = .ok (.iload_n 2, 1) := by decide +kernel
theorem dX9_mark_9 : decode cX9_mark 9 = .ok (.iconst (-1), 1) := by decide +kernel
theorem dX9_mark_10 : decode cX9_mark 10 = .ok (.bipush 8, 2) := by decide +kernel
theorem dX9_mark_12 : decode cX9_mark 12 = .ok (.invokestatic 91, 3) := by decide +kernel
theorem dX9_mark_15 : decode cX9_mark 15 = .ok (.ifCond .eq 24, 3) := by decide +kernel
theorem dX9_mark_18 : decode cX9_mark 18 = .ok (.iload_n 3, 1) := by decide +kernel
theorem dX9_mark_19 : decode cX9_mark 19 = .ok (.iconst 0, 1) := by decide +kernel
theorem dX9_mark_20 : decode cX9_mark 20 = .ok (.bipush 23, 2) := by decide +kernel
theorem dX9_mark_22 : decode cX9_mark 22 = .ok (.invokestatic 91, 3) := by decide +kernel
theorem dX9_mark_25 : decode cX9_mark 25 = .ok (.ifCond .eq 14, 3) := by decide +kernel
theorem dX9_mark_28 : decode cX9_mark 28 = .ok (.iload 4, 2) := by decide +kernel
theorem dX9_mark_30 : decode cX9_mark 30 = .ok (.iconst 0, 1) := by decide +kernel
theorem dX9_mark_31 : decode cX9_mark 31 = .ok (.bipush 9, 2) := by decide +kernel
theorem dX9_mark_33 : decode cX9_mark 33 = .ok (.invokestatic 91, 3) := by decide +kernel
theorem dX9_mark_36 : decode cX9_mark 36 = .ok (.ifCond .ne 8, 3) := by decide +kernel
theorem dX9_mark_39 : decode cX9_mark 39 = .ok (.aload_n 0, 1) := by decide +kernel
theorem dX9_mark_40 : decode cX9_mark 40 = .ok (.invokevirtual 95, 3) := by decide +kernel
theorem dX9_mark_43 : decode cX9_mark 43 = .ok (.ireturn, 1) := by decide +kernel
theorem dX9_mark_44 : decode cX9_mark 44 = .ok (.aload_n 0, 1) := by decide +kernel
theorem dX9_mark_45 : decode cX9_mark 45 = .ok (.getfield 85, 3) := by decide +kernel
theorem dX9_mark_48 : decode cX9_mark 48 = .ok (.bipush 6, 2) := by decide +kernel
theorem dX9_mark_50 : decode cX9_mark 50 = .ok (.if_icmp .ne 8, 3) := by decide +kernel
theorem dX9_mark_53 : decode cX9_mark 53 = .ok (.aload_n 0, 1) := by decide +kernel
theorem dX9_mark_54 : decode cX9_mark 54 = .ok (.invokevirtual 99, 3) := by decide +kernel
theorem dX9_mark_57 : decode cX9_mark 57 = .ok (.ireturn, 1) := by decide +kernel
theorem dX9_mark_58 : decode cX9_mark 58 = .ok (.aload_n 0, 1) := by decide +kernel
theorem dX9_mark_59 : decode cX9_mark 59 = .ok (.getfield 34, 3) := by decide +kernel
theorem dX9_mark_62 : decode cX9_mark 62 = .ok (.iconst 4, 1) := by decide +kernel
theorem dX9_mark_63 : decode cX9_mark 63 = .ok (.aload_n 0, 1) := by decide +kernel
theorem dX9_mark_64 : decode cX9_mark 64 = .ok (.getfield 85, 3) := by decide +kernel
theorem dX9_mark_67 : decode cX9_mark 67 = .ok (.imul, 1) := by decide +kernel
theorem dX9_mark_68 : decode cX9_mark 68 = .ok (.iload_n 1, 1) := by decide +kernel
theorem dX9_mark_69 : decode cX9_mark 69 = .ok (.iastore, 1) := by decide +kernel
theorem dX9_mark_70 : decode cX9_mark 70 = .ok (.aload_n 0, 1) := by decide +kernel
theorem dX9_mark_71 : decode cX9_mark 71 = .ok (.getfield 34, 3) := by decide +kernel
theorem dX9_mark_74 : decode cX9_mark 74 = .ok (.iconst 4, 1) := by decide +kernel
theorem dX9_mark_75 : decode cX9_mark 75 = .ok (.aload_n 0, 1) := by decide +kernel
theorem dX9_mark_76 : decode cX9_mark 76 = .ok (.getfield 85, 3) := by decide +kernel
theorem dX9_mark_79 : decode cX9_mark 79 = .ok (.imul, 1) := by decide +kernel
theorem dX9_mark_80 : decode cX9_mark 80 = .ok (.iconst 1, 1) := by decide +kernel
theorem dX9_mark_81 : decode cX9_mark 81 = .ok (.iadd, 1) := by decide +kernel
theorem dX9_mark_82 : decode cX9_mark 82 = .ok (.iload_n 2, 1) := by decide +kernel
theorem dX9_mark_83 : decode cX9_mark 83 = .ok (.iastore, 1) := by decide +kernel
theorem dX9_mark_84 : decode cX9_mark 84 = .ok (.aload_n 0, 1) := by decide +kernel
theorem dX9_mark_85 : decode cX9_mark 85 = .ok (.getfield 34, 3) := by decide +kernel
theorem dX9_mark_88 : decode cX9_mark 88 = .ok (.iconst 4, 1) := by decide +kernel
theorem dX9_mark_89 : decode cX9_mark 89 = .ok (.aload_n 0, 1) := by decide +kernel
theorem dX9_mark_90 : decode cX9_mark 90 = .ok (.getfield 85, 3) := by decide +kernel
theorem dX9_mark_93 : decode cX9_mark 93 = .ok (.imul, 1) := by decide +kernel
theorem dX9_mark_94 : decode cX9_mark 94 = .ok (.iconst 2, 1) := by decide +kernel
theorem dX9_mark_95 : decode cX9_mark 95 = .ok (.iadd, 1) := by decide +kernel
theorem dX9_mark_96 : decode cX9_mark 96 = .ok (.iload_n 3, 1) := by decide +kernel
theorem dX9_mark_97 : decode cX9_mark 97 = .ok (.iastore, 1) := by decide +kernel
theorem dX9_mark_98 : decode cX9_mark 98 = .ok (.aload_n 0, 1) := by decide +kernel
theorem dX9_mark_99 : decode cX9_mark 99 = .ok (.getfield 34, 3) := by decide +kernel
theorem dX9_mark_102 : decode cX9_mark 102 = .ok (.iconst 4, 1) := by decide +kernel
theorem dX9_mark_103 : decode cX9_mark 103 = .ok (.aload_n 0, 1) := by decide +kernel
theorem dX9_mark_104 : decode cX9_mark 104 = .ok (.getfield 85, 3) := by decide +kernel
theorem dX9_mark_107 : decode cX9_mark 107 = .ok (.imul, 1) := by decide +kernel
theorem dX9_mark_108 : decode cX9_mark 108 = .ok (.iconst 3, 1) := by decide +kernel
theorem dX9_mark_109 : decode cX9_mark 109 = .ok (.iadd, 1) := by decide +kernel
theorem dX9_mark_110 : decode cX9_mark 110 = .ok (.iload 4, 2) := by decide +kernel
theorem dX9_mark_112 : decode cX9_mark 112 = .ok (.iastore, 1) := by decide +kernel
theorem dX9_mark_113 : decode cX9_mark 113 = .ok (.aload_n 0, 1) := by decide +kernel
theorem dX9_mark_114 : decode cX9_mark 114 = .ok (.dup, 1) := by decide +kernel
theorem dX9_mark_115 : decode cX9_mark 115 = .ok (.getfield 85, 3) := by decide +kernel
theorem dX9_mark_118 : decode cX9_mark 118 = .ok (.iconst 1, 1) := by decide +kernel
theorem dX9_mark_119 : decode cX9_mark 119 = .ok (.iadd, 1) := by decide +kernel
theorem dX9_mark_120 : decode cX9_mark 120 = .ok (.putfield 85, 3) := by decide +kernel
theorem dX9_mark_123 : decode cX9_mark 123 = .ok (.aload_n 0, 1) := by decide +kernel
theorem dX9_mark_124 : decode cX9_mark 124 = .ok (.getfield 85, 3) := by decide +kernel
theorem dX9_mark_127 : decode cX9_mark 127 = .ok (.ireturn, 1) := by decide +kernel
theorem dX9_forget_0 : decode cX9_forget 0 = .ok (.iload_n 1, 1) := by decide +kernel
theorem dX9_forget_1 : decode cX9_forget 1 = .ok (.iconst 0, 1) := by decide +kernel
theorem dX9_forget_2 : decode cX9_forget 2 = .ok (.iconst 2, 1) := by decide +kernel
theorem dX9_forget_3 : decode cX9_forget 3 = .ok (.invokestatic 91, 3) := by decide +kernel
theorem dX9_forget_6 : decode cX9_forget 6 = .ok (.ifCond .ne 8, 3) := by decide +kernel
theorem dX9_forget_9 : decode cX9_forget 9 = .ok (.aload_n 0, 1) := by decide +kernel
theorem dX9_forget_10 : decode cX9_forget 10 = .ok (.invokevirtual 95, 3) := by decide +kernel
theorem dX9_forget_13 : decode cX9_forget 13 = .ok (.ireturn, 1) := by decide +kernel
theorem dX9_forget_14 : decode cX9_forget 14 = .ok (.iload_n 1, 1) := by decide +kernel
theorem dX9_forget_15 : decode cX9_forget 15 = .ok (.ifCond .ne 10, 3) := by decide +kernel
theorem dX9_forget_18 : decode cX9_forget 18 = .ok (.aload_n 0, 1) := by decide +kernel
theorem dX9_forget_19 : decode cX9_forget 19 = .ok (.getfield 79, 3) := by decide +kernel
theorem dX9_forget_22 : decode cX9_forget 22 = .ok (.goto 19, 3) := by decide +kernel
theorem dX9_forget_25 : decode cX9_forget 25 = .ok (.iload_n 1, 1) := by decide +kernel
theorem dX9_forget_26 : decode cX9_forget 26 = .ok (.iconst 1, 1) := by decide +kernel
theorem dX9_forget_27 : decode cX9_forget 27 = .ok (.if_icmp .ne 10, 3) := by decide +kernel
theorem dX9_forget_30 : decode cX9_forget 30 = .ok (.aload_n 0, 1) := by decide +kernel
theorem dX9_forget_31 : decode cX9_forget 31 = .ok (.getfield 82, 3) := by decide +kernel
theorem dX9_forget_34 : decode cX9_forget 34 = .ok (.goto 7, 3) := by decide +kernel
theorem dX9_forget_37 : decode cX9_forget 37 = .ok (.aload_n 0, 1) := by decide +kernel
theorem dX9_forget_38 : decode cX9_forget 38 = .ok (.getfield 85, 3) := by decide +kernel
theorem dX9_forget_41 : decode cX9_forget 41 = .ok (.istore_n 2, 1) := by decide +kernel
theorem dX9_forget_42 : decode cX9_forget 42 = .ok (.aload_n 0, 1) := by decide +kernel
theorem dX9_forget_43 : decode cX9_forget 43 = .ok (.iload_n 1, 1) := by decide +kernel
theorem dX9_forget_44 : decode cX9_forget 44 = .ok (.ifCond .ne 7, 3) := by decide +kernel
theorem dX9_forget_47 : decode cX9_forget 47 = .ok (.iconst 0, 1) := by decide +kernel
theorem dX9_forget_48 : decode cX9_forget 48 = .ok (.goto 7, 3) := by decide +kernel
theorem dX9_forget_51 : decode cX9_forget 51 = .ok (.aload_n 0, 1) := by decide +kernel
theorem dX9_forget_52 : decode cX9_forget 52 = .ok (.getfield 79, 3) := by decide +kernel
theorem dX9_forget_55 : decode cX9_forget 55 = .ok (.putfield 79, 3) := by decide +kernel
theorem dX9_forget_58 : decode cX9_forget 58 = .ok (.aload_n 0, 1) := by decide +kernel
theorem dX9_forget_59 : decode cX9_forget 59 = .ok (.iload_n 1, 1) := by decide +kernel
theorem dX9_forget_60 : decode cX9_forget 60 = .ok (.iconst 1, 1) := by decide +kernel
theorem dX9_forget_61 : decode cX9_forget 61 = .ok (.if_icmp .ne 7, 3) := by decide +kernel
theorem dX9_forget_64 : decode cX9_forget 64 = .ok (.iconst 0, 1) := by decide +kernel
theorem dX9_forget_65 : decode cX9_forget 65 = .ok (.goto 7, 3) := by decide +kernel
theorem dX9_forget_68 : decode cX9_forget 68 = .ok (.aload_n 0, 1) := by decide +kernel
theorem dX9_forget_69 : decode cX9_forget 69 = .ok (.getfield 82, 3) := by decide +kernel
theorem dX9_forget_72 : decode cX9_forget 72 = .ok (.putfield 82, 3) := by decide +kernel
theorem dX9_forget_75 : decode cX9_forget 75 = .ok (.aload_n 0, 1) := by decide +kernel
theorem dX9_forget_76 : decode cX9_forget 76 = .ok (.iload_n 1, 1) := by decide +kernel
theorem dX9_forget_77 : decode cX9_forget 77 = .ok (.iconst 2, 1) := by decide +kernel
theorem dX9_forget_78 : decode cX9_forget 78 = .ok (.if_icmp .ne 7, 3) := by decide +kernel
theorem dX9_forget_81 : decode cX9_forget 81 = .ok (.iconst 0, 1) := by decide +kernel
theorem dX9_forget_82 : decode cX9_forget 82 = .ok (.goto 7, 3) := by decide +kernel
theorem dX9_forget_85 : decode cX9_forget 85 = .ok (.aload_n 0, 1) := by decide +kernel
theorem dX9_forget_86 : decode cX9_forget 86 = .ok (.getfield 85, 3) := by decide +kernel
theorem dX9_forget_89 : decode cX9_forget 89 = .ok (.putfield 85, 3) := by decide +kernel
theorem dX9_forget_92 : decode cX9_forget 92 = .ok (.iload_n 2, 1) := by decide +kernel
theorem dX9_forget_93 : decode cX9_forget 93 = .ok (.ireturn, 1) := by decide +kernel
theorem dX9_stepKinds_0 : decode cX9_stepKinds 0 = .ok (.iconst 0, 1) := by decide +kernel
theorem dX9_stepKinds_1 : decode cX9_stepKinds 1 = .ok (.istore_n 2, 1) := by decide +kernel
theorem dX9_stepKinds_2 : decode cX9_stepKinds 2 = .ok (.iconst 0, 1) := by decide +kernel
theorem dX9_stepKinds_3 : decode cX9_stepKinds 3 = .ok (.istore_n 3, 1) := by decide +kernel
theorem dX9_stepKinds_4 : decode cX9_stepKinds 4 = .ok (.iload_n 3, 1) := by decide +kernel
theorem dX9_stepKinds_5 : decode cX9_stepKinds 5 = .ok (.iconst 5, 1) := by decide +kernel
theorem dX9_stepKinds_6 : decode cX9_stepKinds 6 = .ok (.if_icmp .gt 116, 3) := by decide +kernel
theorem dX9_stepKinds_9 : decode cX9_stepKinds 9 = .ok (.iconst 1, 1) := by decide +kernel
theorem dX9_stepKinds_10 : decode cX9_stepKinds 10 = .ok (.istore 4, 2) := by decide +kernel
theorem dX9_stepKinds_12 : decode cX9_stepKinds 12 = .ok (.iconst 0, 1) := by decide +kernel
theorem dX9_stepKinds_13 : decode cX9_stepKinds 13 = .ok (.istore 5, 2) := by decide +kernel
theorem dX9_stepKinds_15 : decode cX9_stepKinds 15 = .ok (.iload 5, 2) := by decide +kernel
theorem dX9_stepKinds_17 : decode cX9_stepKinds 17 = .ok (.iconst 4, 1) := by decide +kernel
theorem dX9_stepKinds_18 : decode cX9_stepKinds 18 = .ok (.aload_n 0, 1) := by decide +kernel
theorem dX9_stepKinds_19 : decode cX9_stepKinds 19 = .ok (.getfield 82, 3) := by decide +kernel
theorem dX9_stepKinds_22 : decode cX9_stepKinds 22 = .ok (.imul, 1) := by decide +kernel
theorem dX9_stepKinds_23 : decode cX9_stepKinds 23 = .ok (.if_icmp .ge 78, 3) := by decide +kernel
theorem dX9_stepKinds_26 : decode cX9_stepKinds 26 = .ok (.iload_n 3, 1) := by decide +kernel
theorem dX9_stepKinds_27 : decode cX9_stepKinds 27 = .ok (.aload_n 0, 1) := by decide +kernel
theorem dX9_stepKinds_28 : decode cX9_stepKinds 28 = .ok (.getfield 31, 3) := by decide +kernel
theorem dX9_stepKinds_31 : decode cX9_stepKinds 31 = .ok (.iload 5, 2) := by decide +kernel
theorem dX9_stepKinds_33 : decode cX9_stepKinds 33 = .ok (.iconst 1, 1) := by decide +kernel
theorem dX9_stepKinds_34 : decode cX9_stepKinds 34 = .ok (.iadd, 1) := by decide +kernel
theorem dX9_stepKinds_35 : decode cX9_stepKinds 35 = .ok (.iaload, 1) := by decide +kernel
theorem dX9_stepKinds_36 : decode cX9_stepKinds 36 = .ok (.aload_n 0, 1) := by decide +kernel
theorem dX9_stepKinds_37 : decode cX9_stepKinds 37 = .ok (.getfield 31, 3) := by decide +kernel
theorem dX9_stepKinds_40 : decode cX9_stepKinds 40 = .ok (.iload 5, 2) := by decide +kernel
theorem dX9_stepKinds_42 : decode cX9_stepKinds 42 = .ok (.iconst 2, 1) := by decide +kernel
theorem dX9_stepKinds_43 : decode cX9_stepKinds 43 = .ok (.iadd, 1) := by decide +kernel
theorem dX9_stepKinds_44 : decode cX9_stepKinds 44 = .ok (.iaload, 1) := by decide +kernel
theorem dX9_stepKinds_45 : decode cX9_stepKinds 45 = .ok (.invokestatic 182, 3) := by decide +kernel
theorem dX9_stepKinds_48 : decode cX9_stepKinds 48 = .ok (.aload_n 0, 1) := by decide +kernel
theorem dX9_stepKinds_49 : decode cX9_stepKinds 49 = .ok (.getfield 31, 3) := by decide +kernel
theorem dX9_stepKinds_52 : decode cX9_stepKinds 52 = .ok (.iload 5, 2) := by decide +kernel
theorem dX9_stepKinds_54 : decode cX9_stepKinds 54 = .ok (.iconst 3, 1) := by decide +kernel
theorem dX9_stepKinds_55 : decode cX9_stepKinds 55 = .ok (.iadd, 1) := by decide +kernel
theorem dX9_stepKinds_56 : decode cX9_stepKinds 56 = .ok (.iaload, 1) := by decide +kernel
theorem dX9_stepKinds_57 : decode cX9_stepKinds 57 = .ok (.if_icmp .ne 7, 3) := by decide +kernel
theorem dX9_stepKinds_60 : decode cX9_stepKinds 60 = .ok (.iconst 1, 1) := by decide +kernel
theorem dX9_stepKinds_61 : decode cX9_stepKinds 61 = .ok (.goto 4, 3) := by decide +kernel
theorem dX9_stepKinds_64 : decode cX9_stepKinds 64 = .ok (.iconst 0, 1) := by decide +kernel
theorem dX9_stepKinds_65 : decode cX9_stepKinds 65 = .ok (.istore 6, 2) := by decide +kernel
theorem dX9_stepKinds_67 : decode cX9_stepKinds 67 = .ok (.iload 4, 2) := by decide +kernel
theorem dX9_stepKinds_69 : decode cX9_stepKinds 69 = .ok (.ifCond .eq 23, 3) := by decide +kernel
theorem dX9_stepKinds_72 : decode cX9_stepKinds 72 = .ok (.aload_n 0, 1) := by decide +kernel
theorem dX9_stepKinds_73 : decode cX9_stepKinds 73 = .ok (.getfield 31, 3) := by decide +kernel
theorem dX9_stepKinds_76 : decode cX9_stepKinds 76 = .ok (.iload 5, 2) := by decide +kernel
theorem dX9_stepKinds_78 : decode cX9_stepKinds 78 = .ok (.iaload, 1) := by decide +kernel
theorem dX9_stepKinds_79 : decode cX9_stepKinds 79 = .ok (.iload_n 1, 1) := by decide +kernel
theorem dX9_stepKinds_80 : decode cX9_stepKinds 80 = .ok (.if_icmp .ne 8, 3) := by decide +kernel
theorem dX9_stepKinds_83 : decode cX9_stepKinds 83 = .ok (.iload 6, 2) := by decide +kernel
theorem dX9_stepKinds_85 : decode cX9_stepKinds 85 = .ok (.ifCond .eq 7, 3) := by decide +kernel
theorem dX9_stepKinds_88 : decode cX9_stepKinds 88 = .ok (.iconst 1, 1) := by decide +kernel
theorem dX9_stepKinds_89 : decode cX9_stepKinds 89 = .ok (.goto 4, 3) := by decide +kernel
theorem dX9_stepKinds_92 : decode cX9_stepKinds 92 = .ok (.iconst 0, 1) := by decide +kernel
theorem dX9_stepKinds_93 : decode cX9_stepKinds 93 = .ok (.istore 4, 2) := by decide +kernel
theorem dX9_stepKinds_95 : decode cX9_stepKinds 95 = .ok (.iinc 5 4, 3) := by decide +kernel
theorem dX9_stepKinds_98 : decode cX9_stepKinds 98 = .ok (.goto (-83), 3) := by decide +kernel
theorem dX9_stepKinds_101 : decode cX9_stepKinds 101 = .ok (.iload_n 2, 1) := by decide +kernel
theorem dX9_stepKinds_102 : decode cX9_stepKinds 102 = .ok (.iload 4, 2) := by decide +kernel
theorem dX9_stepKinds_104 : decode cX9_stepKinds 104 = .ok (.ifCond .eq 9, 3) := by decide +kernel
theorem dX9_stepKinds_107 : decode cX9_stepKinds 107 = .ok (.iconst 1, 1) := by decide +kernel
theorem dX9_stepKinds_108 : decode cX9_stepKinds 108 = .ok (.iload_n 3, 1) := by decide +kernel
theorem dX9_stepKinds_109 : decode cX9_stepKinds 109 = .ok (.ishl, 1) := by decide +kernel
theorem dX9_stepKinds_110 : decode cX9_stepKinds 110 = .ok (.goto 4, 3) := by decide +kernel
theorem dX9_stepKinds_113 : decode cX9_stepKinds 113 = .ok (.iconst 0, 1) := by decide +kernel
theorem dX9_stepKinds_114 : decode cX9_stepKinds 114 = .ok (.ior, 1) := by decide +kernel
theorem dX9_stepKinds_115 : decode cX9_stepKinds 115 = .ok (.istore_n 2, 1) := by decide +kernel
theorem dX9_stepKinds_116 : decode cX9_stepKinds 116 = .ok (.iinc 3 1, 3) := by decide +kernel
theorem dX9_stepKinds_119 : decode cX9_stepKinds 119 = .ok (.goto (-115), 3) := by decide +kernel
theorem dX9_stepKinds_122 : decode cX9_stepKinds 122 = .ok (.iload_n 2, 1) := by decide +kernel
theorem dX9_stepKinds_123 : decode cX9_stepKinds 123 = .ok (.ireturn, 1) := by decide +kernel
theorem dX9_peopleKinds_0 : decode cX9_peopleKinds 0 = .ok (.iconst 0, 1) := by decide +kernel
theorem dX9_peopleKinds_1 : decode cX9_peopleKinds 1 = .ok (.istore_n 2, 1) := by decide +kernel
theorem dX9_peopleKinds_2 : decode cX9_peopleKinds 2 = .ok (.iconst 0, 1) := by decide +kernel
theorem dX9_peopleKinds_3 : decode cX9_peopleKinds 3 = .ok (.istore_n 3, 1) := by decide +kernel
theorem dX9_peopleKinds_4 : decode cX9_peopleKinds 4 = .ok (.iload_n 3, 1) := by decide +kernel
theorem dX9_peopleKinds_5 : decode cX9_peopleKinds 5 = .ok (.iconst 5, 1) := by decide +kernel
theorem dX9_peopleKinds_6 : decode cX9_peopleKinds 6 = .ok (.if_icmp .gt 116, 3) := by decide +kernel
theorem dX9_peopleKinds_9 : decode cX9_peopleKinds 9 = .ok (.iconst 1, 1) := by decide +kernel
theorem dX9_peopleKinds_10 : decode cX9_peopleKinds 10 = .ok (.istore 4, 2) := by decide +kernel
theorem dX9_peopleKinds_12 : decode cX9_peopleKinds 12 = .ok (.iconst 0, 1) := by decide +kernel
theorem dX9_peopleKinds_13 : decode cX9_peopleKinds 13 = .ok (.istore 5, 2) := by decide +kernel
theorem dX9_peopleKinds_15 : decode cX9_peopleKinds 15 = .ok (.iload 5, 2) := by decide +kernel
theorem dX9_peopleKinds_17 : decode cX9_peopleKinds 17 = .ok (.iconst 4, 1) := by decide +kernel
theorem dX9_peopleKinds_18 : decode cX9_peopleKinds 18 = .ok (.aload_n 0, 1) := by decide +kernel
theorem dX9_peopleKinds_19 : decode cX9_peopleKinds 19 = .ok (.getfield 85, 3) := by decide +kernel
theorem dX9_peopleKinds_22 : decode cX9_peopleKinds 22 = .ok (.imul, 1) := by decide +kernel
theorem dX9_peopleKinds_23 : decode cX9_peopleKinds 23 = .ok (.if_icmp .ge 78, 3) := by decide +kernel
theorem dX9_peopleKinds_26 : decode cX9_peopleKinds 26 = .ok (.iload_n 3, 1) := by decide +kernel
theorem dX9_peopleKinds_27 : decode cX9_peopleKinds 27 = .ok (.aload_n 0, 1) := by decide +kernel
theorem dX9_peopleKinds_28 : decode cX9_peopleKinds 28 = .ok (.getfield 34, 3) := by decide +kernel
theorem dX9_peopleKinds_31 : decode cX9_peopleKinds 31 = .ok (.iload 5, 2) := by decide +kernel
theorem dX9_peopleKinds_33 : decode cX9_peopleKinds 33 = .ok (.iconst 2, 1) := by decide +kernel
theorem dX9_peopleKinds_34 : decode cX9_peopleKinds 34 = .ok (.iadd, 1) := by decide +kernel
theorem dX9_peopleKinds_35 : decode cX9_peopleKinds 35 = .ok (.iaload, 1) := by decide +kernel
theorem dX9_peopleKinds_36 : decode cX9_peopleKinds 36 = .ok (.aload_n 0, 1) := by decide +kernel
theorem dX9_peopleKinds_37 : decode cX9_peopleKinds 37 = .ok (.getfield 34, 3) := by decide +kernel
theorem dX9_peopleKinds_40 : decode cX9_peopleKinds 40 = .ok (.iload 5, 2) := by decide +kernel
theorem dX9_peopleKinds_42 : decode cX9_peopleKinds 42 = .ok (.iconst 1, 1) := by decide +kernel
theorem dX9_peopleKinds_43 : decode cX9_peopleKinds 43 = .ok (.iadd, 1) := by decide +kernel
theorem dX9_peopleKinds_44 : decode cX9_peopleKinds 44 = .ok (.iaload, 1) := by decide +kernel
theorem dX9_peopleKinds_45 : decode cX9_peopleKinds 45 = .ok (.invokestatic 186, 3) := by decide +kernel
theorem dX9_peopleKinds_48 : decode cX9_peopleKinds 48 = .ok (.aload_n 0, 1) := by decide +kernel
theorem dX9_peopleKinds_49 : decode cX9_peopleKinds 49 = .ok (.getfield 34, 3) := by decide +kernel
theorem dX9_peopleKinds_52 : decode cX9_peopleKinds 52 = .ok (.iload 5, 2) := by decide +kernel
theorem dX9_peopleKinds_54 : decode cX9_peopleKinds 54 = .ok (.iconst 3, 1) := by decide +kernel
theorem dX9_peopleKinds_55 : decode cX9_peopleKinds 55 = .ok (.iadd, 1) := by decide +kernel
theorem dX9_peopleKinds_56 : decode cX9_peopleKinds 56 = .ok (.iaload, 1) := by decide +kernel
theorem dX9_peopleKinds_57 : decode cX9_peopleKinds 57 = .ok (.if_icmp .ne 7, 3) := by decide +kernel
theorem dX9_peopleKinds_60 : decode cX9_peopleKinds 60 = .ok (.iconst 1, 1) := by decide +kernel
theorem dX9_peopleKinds_61 : decode cX9_peopleKinds 61 = .ok (.goto 4, 3) := by decide +kernel
theorem dX9_peopleKinds_64 : decode cX9_peopleKinds 64 = .ok (.iconst 0, 1) := by decide +kernel
theorem dX9_peopleKinds_65 : decode cX9_peopleKinds 65 = .ok (.istore 6, 2) := by decide +kernel
theorem dX9_peopleKinds_67 : decode cX9_peopleKinds 67 = .ok (.iload 4, 2) := by decide +kernel
theorem dX9_peopleKinds_69 : decode cX9_peopleKinds 69 = .ok (.ifCond .eq 23, 3) := by decide +kernel
theorem dX9_peopleKinds_72 : decode cX9_peopleKinds 72 = .ok (.aload_n 0, 1) := by decide +kernel
theorem dX9_peopleKinds_73 : decode cX9_peopleKinds 73 = .ok (.getfield 34, 3) := by decide +kernel
theorem dX9_peopleKinds_76 : decode cX9_peopleKinds 76 = .ok (.iload 5, 2) := by decide +kernel
theorem dX9_peopleKinds_78 : decode cX9_peopleKinds 78 = .ok (.iaload, 1) := by decide +kernel
theorem dX9_peopleKinds_79 : decode cX9_peopleKinds 79 = .ok (.iload_n 1, 1) := by decide +kernel
theorem dX9_peopleKinds_80 : decode cX9_peopleKinds 80 = .ok (.if_icmp .ne 8, 3) := by decide +kernel
theorem dX9_peopleKinds_83 : decode cX9_peopleKinds 83 = .ok (.iload 6, 2) := by decide +kernel
theorem dX9_peopleKinds_85 : decode cX9_peopleKinds 85 = .ok (.ifCond .eq 7, 3) := by decide +kernel
theorem dX9_peopleKinds_88 : decode cX9_peopleKinds 88 = .ok (.iconst 1, 1) := by decide +kernel
theorem dX9_peopleKinds_89 : decode cX9_peopleKinds 89 = .ok (.goto 4, 3) := by decide +kernel
theorem dX9_peopleKinds_92 : decode cX9_peopleKinds 92 = .ok (.iconst 0, 1) := by decide +kernel
theorem dX9_peopleKinds_93 : decode cX9_peopleKinds 93 = .ok (.istore 4, 2) := by decide +kernel
theorem dX9_peopleKinds_95 : decode cX9_peopleKinds 95 = .ok (.iinc 5 4, 3) := by decide +kernel
theorem dX9_peopleKinds_98 : decode cX9_peopleKinds 98 = .ok (.goto (-83), 3) := by decide +kernel
theorem dX9_peopleKinds_101 : decode cX9_peopleKinds 101 = .ok (.iload_n 2, 1) := by decide +kernel
theorem dX9_peopleKinds_102 : decode cX9_peopleKinds 102 = .ok (.iload 4, 2) := by decide +kernel
theorem dX9_peopleKinds_104 : decode cX9_peopleKinds 104 = .ok (.ifCond .eq 9, 3) := by decide +kernel
theorem dX9_peopleKinds_107 : decode cX9_peopleKinds 107 = .ok (.iconst 1, 1) := by decide +kernel
theorem dX9_peopleKinds_108 : decode cX9_peopleKinds 108 = .ok (.iload_n 3, 1) := by decide +kernel
theorem dX9_peopleKinds_109 : decode cX9_peopleKinds 109 = .ok (.ishl, 1) := by decide +kernel
theorem dX9_peopleKinds_110 : decode cX9_peopleKinds 110 = .ok (.goto 4, 3) := by decide +kernel
theorem dX9_peopleKinds_113 : decode cX9_peopleKinds 113 = .ok (.iconst 0, 1) := by decide +kernel
theorem dX9_peopleKinds_114 : decode cX9_peopleKinds 114 = .ok (.ior, 1) := by decide +kernel
theorem dX9_peopleKinds_115 : decode cX9_peopleKinds 115 = .ok (.istore_n 2, 1) := by decide +kernel
theorem dX9_peopleKinds_116 : decode cX9_peopleKinds 116 = .ok (.iinc 3 1, 3) := by decide +kernel
theorem dX9_peopleKinds_119 : decode cX9_peopleKinds 119 = .ok (.goto (-115), 3) := by decide +kernel
theorem dX9_peopleKinds_122 : decode cX9_peopleKinds 122 = .ok (.iload_n 2, 1) := by decide +kernel
theorem dX9_peopleKinds_123 : decode cX9_peopleKinds 123 = .ok (.ireturn, 1) := by decide +kernel
theorem dX9_is_0 : decode cX9_is 0 = .ok (.iload_n 1, 1) := by decide +kernel
theorem dX9_is_1 : decode cX9_is 1 = .ok (.invokestatic 219, 3) := by decide +kernel
theorem dX9_is_4 : decode cX9_is 4 = .ok (.ifCond .eq 11, 3) := by decide +kernel
theorem dX9_is_7 : decode cX9_is 7 = .ok (.aload_n 0, 1) := by decide +kernel
theorem dX9_is_8 : decode cX9_is 8 = .ok (.iload_n 1, 1) := by decide +kernel
theorem dX9_is_9 : decode cX9_is 9 = .ok (.invokevirtual 256, 3) := by decide +kernel
theorem dX9_is_12 : decode cX9_is 12 = .ok (.goto 7, 3) := by decide +kernel
theorem dX9_is_15 : decode cX9_is 15 = .ok (.aload_n 0, 1) := by decide +kernel
theorem dX9_is_16 : decode cX9_is 16 = .ok (.invokevirtual 95, 3) := by decide +kernel
theorem dX9_is_19 : decode cX9_is 19 = .ok (.ireturn, 1) := by decide +kernel
theorem dX9_kinds_0 : decode cX9_kinds 0 = .ok (.aload_n 0, 1) := by decide +kernel
theorem dX9_kinds_1 : decode cX9_kinds 1 = .ok (.iload_n 1, 1) := by decide +kernel
theorem dX9_kinds_2 : decode cX9_kinds 2 = .ok (.invokevirtual 216, 3) := by decide +kernel
theorem dX9_kinds_5 : decode cX9_kinds 5 = .ok (.ifCond .eq 11, 3) := by decide +kernel
theorem dX9_kinds_8 : decode cX9_kinds 8 = .ok (.aload_n 0, 1) := by decide +kernel
theorem dX9_kinds_9 : decode cX9_kinds 9 = .ok (.iload_n 1, 1) := by decide +kernel
theorem dX9_kinds_10 : decode cX9_kinds 10 = .ok (.invokevirtual 259, 3) := by decide +kernel
theorem dX9_kinds_13 : decode cX9_kinds 13 = .ok (.goto 7, 3) := by decide +kernel
theorem dX9_kinds_16 : decode cX9_kinds 16 = .ok (.aload_n 0, 1) := by decide +kernel
theorem dX9_kinds_17 : decode cX9_kinds 17 = .ok (.invokevirtual 95, 3) := by decide +kernel
theorem dX9_kinds_20 : decode cX9_kinds 20 = .ok (.ireturn, 1) := by decide +kernel
theorem dX9_alike_0 : decode cX9_alike 0 = .ok (.iconst 0, 1) := by decide +kernel
theorem dX9_alike_1 : decode cX9_alike 1 = .ok (.istore 4, 2) := by decide +kernel
theorem dX9_alike_3 : decode cX9_alike 3 = .ok (.iconst 0, 1) := by decide +kernel
theorem dX9_alike_4 : decode cX9_alike 4 = .ok (.istore 5, 2) := by decide +kernel
theorem dX9_alike_6 : decode cX9_alike 6 = .ok (.iload 5, 2) := by decide +kernel
theorem dX9_alike_8 : decode cX9_alike 8 = .ok (.iconst 5, 1) := by decide +kernel
theorem dX9_alike_9 : decode cX9_alike 9 = .ok (.if_icmp .gt 117, 3) := by decide +kernel
theorem dX9_alike_12 : decode cX9_alike 12 = .ok (.iconst 0, 1) := by decide +kernel
theorem dX9_alike_13 : decode cX9_alike 13 = .ok (.istore 6, 2) := by decide +kernel
theorem dX9_alike_15 : decode cX9_alike 15 = .ok (.iload_n 1, 1) := by decide +kernel
theorem dX9_alike_16 : decode cX9_alike 16 = .ok (.ifCond .eq 13, 3) := by decide +kernel
theorem dX9_alike_19 : decode cX9_alike 19 = .ok (.iload 5, 2) := by decide +kernel
theorem dX9_alike_21 : decode cX9_alike 21 = .ok (.iload_n 3, 1) := by decide +kernel
theorem dX9_alike_22 : decode cX9_alike 22 = .ok (.iload_n 2, 1) := by decide +kernel
theorem dX9_alike_23 : decode cX9_alike 23 = .ok (.invokestatic 182, 3) := by decide +kernel
theorem dX9_alike_26 : decode cX9_alike 26 = .ok (.goto 10, 3) := by decide +kernel
theorem dX9_alike_29 : decode cX9_alike 29 = .ok (.iload 5, 2) := by decide +kernel
theorem dX9_alike_31 : decode cX9_alike 31 = .ok (.iload_n 2, 1) := by decide +kernel
theorem dX9_alike_32 : decode cX9_alike 32 = .ok (.iload_n 3, 1) := by decide +kernel
theorem dX9_alike_33 : decode cX9_alike 33 = .ok (.invokestatic 186, 3) := by decide +kernel
theorem dX9_alike_36 : decode cX9_alike 36 = .ok (.istore 7, 2) := by decide +kernel
theorem dX9_alike_38 : decode cX9_alike 38 = .ok (.iconst 0, 1) := by decide +kernel
theorem dX9_alike_39 : decode cX9_alike 39 = .ok (.istore 8, 2) := by decide +kernel
theorem dX9_alike_41 : decode cX9_alike 41 = .ok (.iload 8, 2) := by decide +kernel
theorem dX9_alike_43 : decode cX9_alike 43 = .ok (.iconst 5, 1) := by decide +kernel
theorem dX9_alike_44 : decode cX9_alike 44 = .ok (.if_icmp .gt 67, 3) := by decide +kernel
theorem dX9_alike_47 : decode cX9_alike 47 = .ok (.iload_n 1, 1) := by decide +kernel
theorem dX9_alike_48 : decode cX9_alike 48 = .ok (.ifCond .eq 13, 3) := by decide +kernel
theorem dX9_alike_51 : decode cX9_alike 51 = .ok (.iload 8, 2) := by decide +kernel
theorem dX9_alike_53 : decode cX9_alike 53 = .ok (.iload_n 3, 1) := by decide +kernel
theorem dX9_alike_54 : decode cX9_alike 54 = .ok (.iload_n 2, 1) := by decide +kernel
theorem dX9_alike_55 : decode cX9_alike 55 = .ok (.invokestatic 182, 3) := by decide +kernel
theorem dX9_alike_58 : decode cX9_alike 58 = .ok (.goto 10, 3) := by decide +kernel
theorem dX9_alike_61 : decode cX9_alike 61 = .ok (.iload 8, 2) := by decide +kernel
theorem dX9_alike_63 : decode cX9_alike 63 = .ok (.iload_n 2, 1) := by decide +kernel
theorem dX9_alike_64 : decode cX9_alike 64 = .ok (.iload_n 3, 1) := by decide +kernel
theorem dX9_alike_65 : decode cX9_alike 65 = .ok (.invokestatic 186, 3) := by decide +kernel
theorem dX9_alike_68 : decode cX9_alike 68 = .ok (.istore 9, 2) := by decide +kernel
theorem dX9_alike_70 : decode cX9_alike 70 = .ok (.iload 6, 2) := by decide +kernel
theorem dX9_alike_72 : decode cX9_alike 72 = .ok (.iload_n 0, 1) := by decide +kernel
theorem dX9_alike_73 : decode cX9_alike 73 = .ok (.iload 5, 2) := by decide +kernel
theorem dX9_alike_75 : decode cX9_alike 75 = .ok (.invokestatic 189, 3) := by decide +kernel
theorem dX9_alike_78 : decode cX9_alike 78 = .ok (.ifCond .eq 23, 3) := by decide +kernel
theorem dX9_alike_81 : decode cX9_alike 81 = .ok (.iload_n 0, 1) := by decide +kernel
theorem dX9_alike_82 : decode cX9_alike 82 = .ok (.iload 8, 2) := by decide +kernel
theorem dX9_alike_84 : decode cX9_alike 84 = .ok (.invokestatic 189, 3) := by decide +kernel
theorem dX9_alike_87 : decode cX9_alike 87 = .ok (.ifCond .eq 14, 3) := by decide +kernel
theorem dX9_alike_90 : decode cX9_alike 90 = .ok (.iload 7, 2) := by decide +kernel
theorem dX9_alike_92 : decode cX9_alike 92 = .ok (.iload 9, 2) := by decide +kernel
theorem dX9_alike_94 : decode cX9_alike 94 = .ok (.if_icmp .ne 7, 3) := by decide +kernel
theorem dX9_alike_97 : decode cX9_alike 97 = .ok (.iconst 1, 1) := by decide +kernel
theorem dX9_alike_98 : decode cX9_alike 98 = .ok (.goto 4, 3) := by decide +kernel
theorem dX9_alike_101 : decode cX9_alike 101 = .ok (.iconst 0, 1) := by decide +kernel
theorem dX9_alike_102 : decode cX9_alike 102 = .ok (.iadd, 1) := by decide +kernel
theorem dX9_alike_103 : decode cX9_alike 103 = .ok (.istore 6, 2) := by decide +kernel
theorem dX9_alike_105 : decode cX9_alike 105 = .ok (.iinc 8 1, 3) := by decide +kernel
theorem dX9_alike_108 : decode cX9_alike 108 = .ok (.goto (-67), 3) := by decide +kernel
theorem dX9_alike_111 : decode cX9_alike 111 = .ok (.iload 4, 2) := by decide +kernel
theorem dX9_alike_113 : decode cX9_alike 113 = .ok (.iload 6, 2) := by decide +kernel
theorem dX9_alike_115 : decode cX9_alike 115 = .ok (.invokestatic 262, 3) := by decide +kernel
theorem dX9_alike_118 : decode cX9_alike 118 = .ok (.istore 4, 2) := by decide +kernel
theorem dX9_alike_120 : decode cX9_alike 120 = .ok (.iinc 5 1, 3) := by decide +kernel
theorem dX9_alike_123 : decode cX9_alike 123 = .ok (.goto (-117), 3) := by decide +kernel
theorem dX9_alike_126 : decode cX9_alike 126 = .ok (.iload 4, 2) := by decide +kernel
theorem dX9_alike_128 : decode cX9_alike 128 = .ok (.ireturn, 1) := by decide +kernel
theorem dX9_look_0 : decode cX9_look 0 = .ok (.iload_n 1, 1) := by decide +kernel
theorem dX9_look_1 : decode cX9_look 1 = .ok (.invokestatic 219, 3) := by decide +kernel
theorem dX9_look_4 : decode cX9_look 4 = .ok (.ifCond .ne 8, 3) := by decide +kernel
theorem dX9_look_7 : decode cX9_look 7 = .ok (.aload_n 0, 1) := by decide +kernel
theorem dX9_look_8 : decode cX9_look 8 = .ok (.invokevirtual 95, 3) := by decide +kernel
theorem dX9_look_11 : decode cX9_look 11 = .ok (.ireturn, 1) := by decide +kernel
theorem dX9_look_12 : decode cX9_look 12 = .ok (.aload_n 0, 1) := by decide +kernel
theorem dX9_look_13 : decode cX9_look 13 = .ok (.iload_n 1, 1) := by decide +kernel
theorem dX9_look_14 : decode cX9_look 14 = .ok (.invokevirtual 256, 3) := by decide +kernel
theorem dX9_look_17 : decode cX9_look 17 = .ok (.istore_n 2, 1) := by decide +kernel
theorem dX9_look_18 : decode cX9_look 18 = .ok (.iconst (-1), 1) := by decide +kernel
theorem dX9_look_19 : decode cX9_look 19 = .ok (.istore_n 3, 1) := by decide +kernel
theorem dX9_look_20 : decode cX9_look 20 = .ok (.ldc_w 265, 3) := by decide +kernel
theorem dX9_look_23 : decode cX9_look 23 = .ok (.istore 4, 2) := by decide +kernel
theorem dX9_look_25 : decode cX9_look 25 = .ok (.iconst 0, 1) := by decide +kernel
theorem dX9_look_26 : decode cX9_look 26 = .ok (.istore 5, 2) := by decide +kernel
theorem dX9_look_28 : decode cX9_look 28 = .ok (.iload 5, 2) := by decide +kernel
theorem dX9_look_30 : decode cX9_look 30 = .ok (.iconst 2, 1) := by decide +kernel
theorem dX9_look_31 : decode cX9_look 31 = .ok (.if_icmp .ge 69, 3) := by decide +kernel
theorem dX9_look_34 : decode cX9_look 34 = .ok (.iload_n 2, 1) := by decide +kernel
theorem dX9_look_35 : decode cX9_look 35 = .ok (.ifCond .eq 65, 3) := by decide +kernel
theorem dX9_look_38 : decode cX9_look 38 = .ok (.iconst 1, 1) := by decide +kernel
theorem dX9_look_39 : decode cX9_look 39 = .ok (.istore 6, 2) := by decide +kernel
theorem dX9_look_41 : decode cX9_look 41 = .ok (.iload 6, 2) := by decide +kernel
theorem dX9_look_43 : decode cX9_look 43 = .ok (.bipush 12, 2) := by decide +kernel
theorem dX9_look_45 : decode cX9_look 45 = .ok (.if_icmp .gt 49, 3) := by decide +kernel
theorem dX9_look_48 : decode cX9_look 48 = .ok (.iload_n 2, 1) := by decide +kernel
theorem dX9_look_49 : decode cX9_look 49 = .ok (.iconst 1, 1) := by decide +kernel
theorem dX9_look_50 : decode cX9_look 50 = .ok (.iload 5, 2) := by decide +kernel
theorem dX9_look_52 : decode cX9_look 52 = .ok (.iload 6, 2) := by decide +kernel
theorem dX9_look_54 : decode cX9_look 54 = .ok (.invokestatic 266, 3) := by decide +kernel
theorem dX9_look_57 : decode cX9_look 57 = .ok (.istore 7, 2) := by decide +kernel
theorem dX9_look_59 : decode cX9_look 59 = .ok (.iload 7, 2) := by decide +kernel
theorem dX9_look_61 : decode cX9_look 61 = .ok (.iload 4, 2) := by decide +kernel
theorem dX9_look_63 : decode cX9_look 63 = .ok (.if_icmp .ge 14, 3) := by decide +kernel
theorem dX9_look_66 : decode cX9_look 66 = .ok (.bipush 100, 2) := by decide +kernel
theorem dX9_look_68 : decode cX9_look 68 = .ok (.iload 5, 2) := by decide +kernel
theorem dX9_look_70 : decode cX9_look 70 = .ok (.imul, 1) := by decide +kernel
theorem dX9_look_71 : decode cX9_look 71 = .ok (.iload 6, 2) := by decide +kernel
theorem dX9_look_73 : decode cX9_look 73 = .ok (.iadd, 1) := by decide +kernel
theorem dX9_look_74 : decode cX9_look 74 = .ok (.goto 4, 3) := by decide +kernel
theorem dX9_look_77 : decode cX9_look 77 = .ok (.iload_n 3, 1) := by decide +kernel
theorem dX9_look_78 : decode cX9_look 78 = .ok (.istore_n 3, 1) := by decide +kernel
theorem dX9_look_79 : decode cX9_look 79 = .ok (.iload 4, 2) := by decide +kernel
theorem dX9_look_81 : decode cX9_look 81 = .ok (.iload 7, 2) := by decide +kernel
theorem dX9_look_83 : decode cX9_look 83 = .ok (.invokestatic 179, 3) := by decide +kernel
theorem dX9_look_86 : decode cX9_look 86 = .ok (.istore 4, 2) := by decide +kernel
theorem dX9_look_88 : decode cX9_look 88 = .ok (.iinc 6 1, 3) := by decide +kernel
theorem dX9_look_91 : decode cX9_look 91 = .ok (.goto (-50), 3) := by decide +kernel
theorem dX9_look_94 : decode cX9_look 94 = .ok (.iinc 5 1, 3) := by decide +kernel
theorem dX9_look_97 : decode cX9_look 97 = .ok (.goto (-69), 3) := by decide +kernel
theorem dX9_look_100 : decode cX9_look 100 = .ok (.iload_n 3, 1) := by decide +kernel
theorem dX9_look_101 : decode cX9_look 101 = .ok (.ireturn, 1) := by decide +kernel
theorem dX9_ask_0 : decode cX9_ask 0 = .ok (.aload_n 0, 1) := by decide +kernel
theorem dX9_ask_1 : decode cX9_ask 1 = .ok (.iload_n 1, 1) := by decide +kernel
theorem dX9_ask_2 : decode cX9_ask 2 = .ok (.invokevirtual 216, 3) := by decide +kernel
theorem dX9_ask_5 : decode cX9_ask 5 = .ok (.ifCond .ne 8, 3) := by decide +kernel
theorem dX9_ask_8 : decode cX9_ask 8 = .ok (.aload_n 0, 1) := by decide +kernel
theorem dX9_ask_9 : decode cX9_ask 9 = .ok (.invokevirtual 95, 3) := by decide +kernel
theorem dX9_ask_12 : decode cX9_ask 12 = .ok (.ireturn, 1) := by decide +kernel
theorem dX9_ask_13 : decode cX9_ask 13 = .ok (.aload_n 0, 1) := by decide +kernel
theorem dX9_ask_14 : decode cX9_ask 14 = .ok (.iload_n 1, 1) := by decide +kernel
theorem dX9_ask_15 : decode cX9_ask 15 = .ok (.invokevirtual 259, 3) := by decide +kernel
theorem dX9_ask_18 : decode cX9_ask 18 = .ok (.istore_n 2, 1) := by decide +kernel
theorem dX9_ask_19 : decode cX9_ask 19 = .ok (.iconst (-1), 1) := by decide +kernel
theorem dX9_ask_20 : decode cX9_ask 20 = .ok (.istore_n 3, 1) := by decide +kernel
theorem dX9_ask_21 : decode cX9_ask 21 = .ok (.ldc_w 265, 3) := by decide +kernel
theorem dX9_ask_24 : decode cX9_ask 24 = .ok (.istore 4, 2) := by decide +kernel
theorem dX9_ask_26 : decode cX9_ask 26 = .ok (.iconst 0, 1) := by decide +kernel
theorem dX9_ask_27 : decode cX9_ask 27 = .ok (.istore 5, 2) := by decide +kernel
theorem dX9_ask_29 : decode cX9_ask 29 = .ok (.iload 5, 2) := by decide +kernel
theorem dX9_ask_31 : decode cX9_ask 31 = .ok (.sipush 240, 3) := by decide +kernel
theorem dX9_ask_34 : decode cX9_ask 34 = .ok (.if_icmp .ge 55, 3) := by decide +kernel
theorem dX9_ask_37 : decode cX9_ask 37 = .ok (.iload_n 2, 1) := by decide +kernel
theorem dX9_ask_38 : decode cX9_ask 38 = .ok (.ifCond .eq 51, 3) := by decide +kernel
theorem dX9_ask_41 : decode cX9_ask 41 = .ok (.iload_n 2, 1) := by decide +kernel
theorem dX9_ask_42 : decode cX9_ask 42 = .ok (.iconst 0, 1) := by decide +kernel
theorem dX9_ask_43 : decode cX9_ask 43 = .ok (.iload 5, 2) := by decide +kernel
theorem dX9_ask_45 : decode cX9_ask 45 = .ok (.bipush 10, 2) := by decide +kernel
theorem dX9_ask_47 : decode cX9_ask 47 = .ok (.idiv, 1) := by decide +kernel
theorem dX9_ask_48 : decode cX9_ask 48 = .ok (.iload 5, 2) := by decide +kernel
theorem dX9_ask_50 : decode cX9_ask 50 = .ok (.bipush 10, 2) := by decide +kernel
theorem dX9_ask_52 : decode cX9_ask 52 = .ok (.irem, 1) := by decide +kernel
theorem dX9_ask_53 : decode cX9_ask 53 = .ok (.iconst 1, 1) := by decide +kernel
theorem dX9_ask_54 : decode cX9_ask 54 = .ok (.isub, 1) := by decide +kernel
theorem dX9_ask_55 : decode cX9_ask 55 = .ok (.invokestatic 266, 3) := by decide +kernel
theorem dX9_ask_58 : decode cX9_ask 58 = .ok (.istore 6, 2) := by decide +kernel
theorem dX9_ask_60 : decode cX9_ask 60 = .ok (.iload 6, 2) := by decide +kernel
theorem dX9_ask_62 : decode cX9_ask 62 = .ok (.iload 4, 2) := by decide +kernel
theorem dX9_ask_64 : decode cX9_ask 64 = .ok (.if_icmp .ge 8, 3) := by decide +kernel
theorem dX9_ask_67 : decode cX9_ask 67 = .ok (.iload 5, 2) := by decide +kernel
theorem dX9_ask_69 : decode cX9_ask 69 = .ok (.goto 4, 3) := by decide +kernel
theorem dX9_ask_72 : decode cX9_ask 72 = .ok (.iload_n 3, 1) := by decide +kernel
theorem dX9_ask_73 : decode cX9_ask 73 = .ok (.istore_n 3, 1) := by decide +kernel
theorem dX9_ask_74 : decode cX9_ask 74 = .ok (.iload 4, 2) := by decide +kernel
theorem dX9_ask_76 : decode cX9_ask 76 = .ok (.iload 6, 2) := by decide +kernel
theorem dX9_ask_78 : decode cX9_ask 78 = .ok (.invokestatic 179, 3) := by decide +kernel
theorem dX9_ask_81 : decode cX9_ask 81 = .ok (.istore 4, 2) := by decide +kernel
theorem dX9_ask_83 : decode cX9_ask 83 = .ok (.iinc 5 1, 3) := by decide +kernel
theorem dX9_ask_86 : decode cX9_ask 86 = .ok (.goto (-57), 3) := by decide +kernel
theorem dX9_ask_89 : decode cX9_ask 89 = .ok (.iload_n 3, 1) := by decide +kernel
theorem dX9_ask_90 : decode cX9_ask 90 = .ok (.ireturn, 1) := by decide +kernel
theorem dX9_gets_0 : decode cX9_gets 0 = .ok (.aload_n 0, 1) := by decide +kernel
theorem dX9_gets_1 : decode cX9_gets 1 = .ok (.invokevirtual 210, 3) := by decide +kernel
theorem dX9_gets_4 : decode cX9_gets 4 = .ok (.istore 7, 2) := by decide +kernel
theorem dX9_gets_6 : decode cX9_gets 6 = .ok (.iload 5, 2) := by decide +kernel
theorem dX9_gets_8 : decode cX9_gets 8 = .ok (.iconst 0, 1) := by decide +kernel
theorem dX9_gets_9 : decode cX9_gets 9 = .ok (.invokestatic 189, 3) := by decide +kernel
theorem dX9_gets_12 : decode cX9_gets 12 = .ok (.ifCond .eq 13, 3) := by decide +kernel
theorem dX9_gets_15 : decode cX9_gets 15 = .ok (.aload_n 0, 1) := by decide +kernel
theorem dX9_gets_16 : decode cX9_gets 16 = .ok (.iload_n 1, 1) := by decide +kernel
theorem dX9_gets_17 : decode cX9_gets 17 = .ok (.iload 7, 2) := by decide +kernel
theorem dX9_gets_19 : decode cX9_gets 19 = .ok (.invokevirtual 192, 3) := by decide +kernel
theorem dX9_gets_22 : decode cX9_gets 22 = .ok (.goto 4, 3) := by decide +kernel
theorem dX9_gets_25 : decode cX9_gets 25 = .ok (.iconst 0, 1) := by decide +kernel
theorem dX9_gets_26 : decode cX9_gets 26 = .ok (.iload 5, 2) := by decide +kernel
theorem dX9_gets_28 : decode cX9_gets 28 = .ok (.iconst 1, 1) := by decide +kernel
theorem dX9_gets_29 : decode cX9_gets 29 = .ok (.invokestatic 189, 3) := by decide +kernel
theorem dX9_gets_32 : decode cX9_gets 32 = .ok (.ifCond .eq 13, 3) := by decide +kernel
theorem dX9_gets_35 : decode cX9_gets 35 = .ok (.aload_n 0, 1) := by decide +kernel
theorem dX9_gets_36 : decode cX9_gets 36 = .ok (.iload_n 2, 1) := by decide +kernel
theorem dX9_gets_37 : decode cX9_gets 37 = .ok (.iload 7, 2) := by decide +kernel
theorem dX9_gets_39 : decode cX9_gets 39 = .ok (.invokevirtual 192, 3) := by decide +kernel
theorem dX9_gets_42 : decode cX9_gets 42 = .ok (.goto 4, 3) := by decide +kernel
theorem dX9_gets_45 : decode cX9_gets 45 = .ok (.iconst 0, 1) := by decide +kernel
theorem dX9_gets_46 : decode cX9_gets 46 = .ok (.iadd, 1) := by decide +kernel
theorem dX9_gets_47 : decode cX9_gets 47 = .ok (.istore 8, 2) := by decide +kernel
theorem dX9_gets_49 : decode cX9_gets 49 = .ok (.aload_n 0, 1) := by decide +kernel
theorem dX9_gets_50 : decode cX9_gets 50 = .ok (.getfield 22, 3) := by decide +kernel
theorem dX9_gets_53 : decode cX9_gets 53 = .ok (.iload_n 3, 1) := by decide +kernel
theorem dX9_gets_54 : decode cX9_gets 54 = .ok (.iaload, 1) := by decide +kernel
theorem dX9_gets_55 : decode cX9_gets 55 = .ok (.iload 4, 2) := by decide +kernel
theorem dX9_gets_57 : decode cX9_gets 57 = .ok (.invokestatic 189, 3) := by decide +kernel
theorem dX9_gets_60 : decode cX9_gets 60 = .ok (.ifCond .ne 17, 3) := by decide +kernel
theorem dX9_gets_63 : decode cX9_gets 63 = .ok (.iload 8, 2) := by decide +kernel
theorem dX9_gets_65 : decode cX9_gets 65 = .ok (.aload_n 0, 1) := by decide +kernel
theorem dX9_gets_66 : decode cX9_gets 66 = .ok (.iload_n 3, 1) := by decide +kernel
theorem dX9_gets_67 : decode cX9_gets 67 = .ok (.iload 4, 2) := by decide +kernel
theorem dX9_gets_69 : decode cX9_gets 69 = .ok (.iload 7, 2) := by decide +kernel
theorem dX9_gets_71 : decode cX9_gets 71 = .ok (.invokevirtual 198, 3) := by decide +kernel
theorem dX9_gets_74 : decode cX9_gets 74 = .ok (.if_icmp .lt 7, 3) := by decide +kernel
theorem dX9_gets_77 : decode cX9_gets 77 = .ok (.iconst 1, 1) := by decide +kernel
theorem dX9_gets_78 : decode cX9_gets 78 = .ok (.goto 4, 3) := by decide +kernel
theorem dX9_gets_81 : decode cX9_gets 81 = .ok (.iconst 0, 1) := by decide +kernel
theorem dX9_gets_82 : decode cX9_gets 82 = .ok (.istore 9, 2) := by decide +kernel
theorem dX9_gets_84 : decode cX9_gets 84 = .ok (.iload 5, 2) := by decide +kernel
theorem dX9_gets_86 : decode cX9_gets 86 = .ok (.iload 6, 2) := by decide +kernel
theorem dX9_gets_88 : decode cX9_gets 88 = .ok (.invokestatic 189, 3) := by decide +kernel
theorem dX9_gets_91 : decode cX9_gets 91 = .ok (.ifCond .eq 24, 3) := by decide +kernel
theorem dX9_gets_94 : decode cX9_gets 94 = .ok (.iconst 1, 1) := by decide +kernel
theorem dX9_gets_95 : decode cX9_gets 95 = .ok (.aload_n 0, 1) := by decide +kernel
theorem dX9_gets_96 : decode cX9_gets 96 = .ok (.iload 6, 2) := by decide +kernel
theorem dX9_gets_98 : decode cX9_gets 98 = .ok (.ifCond .ne 7, 3) := by decide +kernel
theorem dX9_gets_101 : decode cX9_gets 101 = .ok (.iload_n 1, 1) := by decide +kernel
theorem dX9_gets_102 : decode cX9_gets 102 = .ok (.goto 4, 3) := by decide +kernel
theorem dX9_gets_105 : decode cX9_gets 105 = .ok (.iload_n 2, 1) := by decide +kernel
theorem dX9_gets_106 : decode cX9_gets 106 = .ok (.iload 7, 2) := by decide +kernel
theorem dX9_gets_108 : decode cX9_gets 108 = .ok (.invokevirtual 192, 3) := by decide +kernel
theorem dX9_gets_111 : decode cX9_gets 111 = .ok (.iadd, 1) := by decide +kernel
theorem dX9_gets_112 : decode cX9_gets 112 = .ok (.goto 4, 3) := by decide +kernel
theorem dX9_gets_115 : decode cX9_gets 115 = .ok (.iconst 0, 1) := by decide +kernel
theorem dX9_gets_116 : decode cX9_gets 116 = .ok (.istore 10, 2) := by decide +kernel
theorem dX9_gets_118 : decode cX9_gets 118 = .ok (.iload 9, 2) := by decide +kernel
theorem dX9_gets_120 : decode cX9_gets 120 = .ok (.ifCond .eq 7, 3) := by decide +kernel
theorem dX9_gets_123 : decode cX9_gets 123 = .ok (.iconst 4, 1) := by decide +kernel
theorem dX9_gets_124 : decode cX9_gets 124 = .ok (.goto 4, 3) := by decide +kernel
theorem dX9_gets_127 : decode cX9_gets 127 = .ok (.iconst 0, 1) := by decide +kernel
theorem dX9_gets_128 : decode cX9_gets 128 = .ok (.iload 10, 2) := by decide +kernel
theorem dX9_gets_130 : decode cX9_gets 130 = .ok (.isub, 1) := by decide +kernel
theorem dX9_gets_131 : decode cX9_gets 131 = .ok (.ireturn, 1) := by decide +kernel
theorem dX9_hosts_0 : decode cX9_hosts 0 = .ok (.aload_n 0, 1) := by decide +kernel
theorem dX9_hosts_1 : decode cX9_hosts 1 = .ok (.iload_n 1, 1) := by decide +kernel
theorem dX9_hosts_2 : decode cX9_hosts 2 = .ok (.invokevirtual 216, 3) := by decide +kernel
theorem dX9_hosts_5 : decode cX9_hosts 5 = .ok (.ifCond .eq 42, 3) := by decide +kernel
theorem dX9_hosts_8 : decode cX9_hosts 8 = .ok (.aload_n 0, 1) := by decide +kernel
theorem dX9_hosts_9 : decode cX9_hosts 9 = .ok (.iload_n 2, 1) := by decide +kernel
theorem dX9_hosts_10 : decode cX9_hosts 10 = .ok (.invokevirtual 216, 3) := by decide +kernel
theorem dX9_hosts_13 : decode cX9_hosts 13 = .ok (.ifCond .eq 34, 3) := by decide +kernel
theorem dX9_hosts_16 : decode cX9_hosts 16 = .ok (.aload_n 0, 1) := by decide +kernel
theorem dX9_hosts_17 : decode cX9_hosts 17 = .ok (.iload_n 3, 1) := by decide +kernel
theorem dX9_hosts_18 : decode cX9_hosts 18 = .ok (.invokevirtual 216, 3) := by decide +kernel
theorem dX9_hosts_21 : decode cX9_hosts 21 = .ok (.ifCond .eq 26, 3) := by decide +kernel
theorem dX9_hosts_24 : decode cX9_hosts 24 = .ok (.iload 4, 2) := by decide +kernel
theorem dX9_hosts_26 : decode cX9_hosts 26 = .ok (.invokestatic 219, 3) := by decide +kernel
theorem dX9_hosts_29 : decode cX9_hosts 29 = .ok (.ifCond .eq 18, 3) := by decide +kernel
theorem dX9_hosts_32 : decode cX9_hosts 32 = .ok (.iload_n 1, 1) := by decide +kernel
theorem dX9_hosts_33 : decode cX9_hosts 33 = .ok (.iload_n 2, 1) := by decide +kernel
theorem dX9_hosts_34 : decode cX9_hosts 34 = .ok (.if_icmp .eq 13, 3) := by decide +kernel
theorem dX9_hosts_37 : decode cX9_hosts 37 = .ok (.iload_n 1, 1) := by decide +kernel
theorem dX9_hosts_38 : decode cX9_hosts 38 = .ok (.iload_n 3, 1) := by decide +kernel
theorem dX9_hosts_39 : decode cX9_hosts 39 = .ok (.if_icmp .eq 8, 3) := by decide +kernel
theorem dX9_hosts_42 : decode cX9_hosts 42 = .ok (.iload_n 2, 1) := by decide +kernel
theorem dX9_hosts_43 : decode cX9_hosts 43 = .ok (.iload_n 3, 1) := by decide +kernel
theorem dX9_hosts_44 : decode cX9_hosts 44 = .ok (.if_icmp .ne 8, 3) := by decide +kernel
theorem dX9_hosts_47 : decode cX9_hosts 47 = .ok (.aload_n 0, 1) := by decide +kernel
theorem dX9_hosts_48 : decode cX9_hosts 48 = .ok (.invokevirtual 95, 3) := by decide +kernel
theorem dX9_hosts_51 : decode cX9_hosts 51 = .ok (.ireturn, 1) := by decide +kernel
theorem dX9_hosts_52 : decode cX9_hosts 52 = .ok (.aload_n 0, 1) := by decide +kernel
theorem dX9_hosts_53 : decode cX9_hosts 53 = .ok (.getfield 22, 3) := by decide +kernel
theorem dX9_hosts_56 : decode cX9_hosts 56 = .ok (.iload_n 1, 1) := by decide +kernel
theorem dX9_hosts_57 : decode cX9_hosts 57 = .ok (.iaload, 1) := by decide +kernel
theorem dX9_hosts_58 : decode cX9_hosts 58 = .ok (.iload 4, 2) := by decide +kernel
theorem dX9_hosts_60 : decode cX9_hosts 60 = .ok (.invokestatic 189, 3) := by decide +kernel
theorem dX9_hosts_63 : decode cX9_hosts 63 = .ok (.ifCond .eq 17, 3) := by decide +kernel
theorem dX9_hosts_66 : decode cX9_hosts 66 = .ok (.aload_n 0, 1) := by decide +kernel
theorem dX9_hosts_67 : decode cX9_hosts 67 = .ok (.getfield 22, 3) := by decide +kernel
theorem dX9_hosts_70 : decode cX9_hosts 70 = .ok (.iload_n 2, 1) := by decide +kernel
theorem dX9_hosts_71 : decode cX9_hosts 71 = .ok (.iaload, 1) := by decide +kernel
theorem dX9_hosts_72 : decode cX9_hosts 72 = .ok (.iload 4, 2) := by decide +kernel
theorem dX9_hosts_74 : decode cX9_hosts 74 = .ok (.invokestatic 189, 3) := by decide +kernel
theorem dX9_hosts_77 : decode cX9_hosts 77 = .ok (.ifCond .ne 8, 3) := by decide +kernel
theorem dX9_hosts_80 : decode cX9_hosts 80 = .ok (.aload_n 0, 1) := by decide +kernel
theorem dX9_hosts_81 : decode cX9_hosts 81 = .ok (.invokevirtual 222, 3) := by decide +kernel
theorem dX9_hosts_84 : decode cX9_hosts 84 = .ok (.ireturn, 1) := by decide +kernel
theorem dX9_hosts_85 : decode cX9_hosts 85 = .ok (.iconst 0, 1) := by decide +kernel
theorem dX9_hosts_86 : decode cX9_hosts 86 = .ok (.istore 5, 2) := by decide +kernel
theorem dX9_hosts_88 : decode cX9_hosts 88 = .ok (.iconst 0, 1) := by decide +kernel
theorem dX9_hosts_89 : decode cX9_hosts 89 = .ok (.istore 6, 2) := by decide +kernel
theorem dX9_hosts_91 : decode cX9_hosts 91 = .ok (.iload 6, 2) := by decide +kernel
theorem dX9_hosts_93 : decode cX9_hosts 93 = .ok (.iconst 4, 1) := by decide +kernel
theorem dX9_hosts_94 : decode cX9_hosts 94 = .ok (.if_icmp .ge 92, 3) := by decide +kernel
theorem dX9_hosts_97 : decode cX9_hosts 97 = .ok (.aload_n 0, 1) := by decide +kernel
theorem dX9_hosts_98 : decode cX9_hosts 98 = .ok (.iload_n 1, 1) := by decide +kernel
theorem dX9_hosts_99 : decode cX9_hosts 99 = .ok (.iload_n 2, 1) := by decide +kernel
theorem dX9_hosts_100 : decode cX9_hosts 100 = .ok (.iload_n 3, 1) := by decide +kernel
theorem dX9_hosts_101 : decode cX9_hosts 101 = .ok (.iload 4, 2) := by decide +kernel
theorem dX9_hosts_103 : decode cX9_hosts 103 = .ok (.iload 6, 2) := by decide +kernel
theorem dX9_hosts_105 : decode cX9_hosts 105 = .ok (.iconst 0, 1) := by decide +kernel
theorem dX9_hosts_106 : decode cX9_hosts 106 = .ok (.invokevirtual 270, 3) := by decide +kernel
theorem dX9_hosts_109 : decode cX9_hosts 109 = .ok (.aload_n 0, 1) := by decide +kernel
theorem dX9_hosts_110 : decode cX9_hosts 110 = .ok (.iload_n 1, 1) := by decide +kernel
theorem dX9_hosts_111 : decode cX9_hosts 111 = .ok (.iload_n 2, 1) := by decide +kernel
theorem dX9_hosts_112 : decode cX9_hosts 112 = .ok (.iload_n 3, 1) := by decide +kernel
theorem dX9_hosts_113 : decode cX9_hosts 113 = .ok (.iload 4, 2) := by decide +kernel
theorem dX9_hosts_115 : decode cX9_hosts 115 = .ok (.iload 6, 2) := by decide +kernel
theorem dX9_hosts_117 : decode cX9_hosts 117 = .ok (.iconst 1, 1) := by decide +kernel
theorem dX9_hosts_118 : decode cX9_hosts 118 = .ok (.ixor, 1) := by decide +kernel
theorem dX9_hosts_119 : decode cX9_hosts 119 = .ok (.iconst 0, 1) := by decide +kernel
theorem dX9_hosts_120 : decode cX9_hosts 120 = .ok (.invokevirtual 270, 3) := by decide +kernel
theorem dX9_hosts_123 : decode cX9_hosts 123 = .ok (.if_icmp .lt 36, 3) := by decide +kernel
theorem dX9_hosts_126 : decode cX9_hosts 126 = .ok (.aload_n 0, 1) := by decide +kernel
theorem dX9_hosts_127 : decode cX9_hosts 127 = .ok (.iload_n 1, 1) := by decide +kernel
theorem dX9_hosts_128 : decode cX9_hosts 128 = .ok (.iload_n 2, 1) := by decide +kernel
theorem dX9_hosts_129 : decode cX9_hosts 129 = .ok (.iload_n 3, 1) := by decide +kernel
theorem dX9_hosts_130 : decode cX9_hosts 130 = .ok (.iload 4, 2) := by decide +kernel
theorem dX9_hosts_132 : decode cX9_hosts 132 = .ok (.iload 6, 2) := by decide +kernel
theorem dX9_hosts_134 : decode cX9_hosts 134 = .ok (.iconst 1, 1) := by decide +kernel
theorem dX9_hosts_135 : decode cX9_hosts 135 = .ok (.invokevirtual 270, 3) := by decide +kernel
theorem dX9_hosts_138 : decode cX9_hosts 138 = .ok (.aload_n 0, 1) := by decide +kernel
theorem dX9_hosts_139 : decode cX9_hosts 139 = .ok (.iload_n 1, 1) := by decide +kernel
theorem dX9_hosts_140 : decode cX9_hosts 140 = .ok (.iload_n 2, 1) := by decide +kernel
theorem dX9_hosts_141 : decode cX9_hosts 141 = .ok (.iload_n 3, 1) := by decide +kernel
theorem dX9_hosts_142 : decode cX9_hosts 142 = .ok (.iload 4, 2) := by decide +kernel
theorem dX9_hosts_144 : decode cX9_hosts 144 = .ok (.iload 6, 2) := by decide +kernel
theorem dX9_hosts_146 : decode cX9_hosts 146 = .ok (.iconst 2, 1) := by decide +kernel
theorem dX9_hosts_147 : decode cX9_hosts 147 = .ok (.ixor, 1) := by decide +kernel
theorem dX9_hosts_148 : decode cX9_hosts 148 = .ok (.iconst 1, 1) := by decide +kernel
theorem dX9_hosts_149 : decode cX9_hosts 149 = .ok (.invokevirtual 270, 3) := by decide +kernel
theorem dX9_hosts_152 : decode cX9_hosts 152 = .ok (.if_icmp .lt 7, 3) := by decide +kernel
theorem dX9_hosts_155 : decode cX9_hosts 155 = .ok (.iconst 1, 1) := by decide +kernel
theorem dX9_hosts_156 : decode cX9_hosts 156 = .ok (.goto 4, 3) := by decide +kernel
theorem dX9_hosts_159 : decode cX9_hosts 159 = .ok (.iconst 0, 1) := by decide +kernel
theorem dX9_hosts_160 : decode cX9_hosts 160 = .ok (.istore 7, 2) := by decide +kernel
theorem dX9_hosts_162 : decode cX9_hosts 162 = .ok (.iload 5, 2) := by decide +kernel
theorem dX9_hosts_164 : decode cX9_hosts 164 = .ok (.iload 7, 2) := by decide +kernel
theorem dX9_hosts_166 : decode cX9_hosts 166 = .ok (.ifCond .eq 10, 3) := by decide +kernel
theorem dX9_hosts_169 : decode cX9_hosts 169 = .ok (.iconst 1, 1) := by decide +kernel
theorem dX9_hosts_170 : decode cX9_hosts 170 = .ok (.iload 6, 2) := by decide +kernel
theorem dX9_hosts_172 : decode cX9_hosts 172 = .ok (.ishl, 1) := by decide +kernel
theorem dX9_hosts_173 : decode cX9_hosts 173 = .ok (.goto 4, 3) := by decide +kernel
theorem dX9_hosts_176 : decode cX9_hosts 176 = .ok (.iconst 0, 1) := by decide +kernel
theorem dX9_hosts_177 : decode cX9_hosts 177 = .ok (.ior, 1) := by decide +kernel
theorem dX9_hosts_178 : decode cX9_hosts 178 = .ok (.istore 5, 2) := by decide +kernel
theorem dX9_hosts_180 : decode cX9_hosts 180 = .ok (.iinc 6 1, 3) := by decide +kernel
theorem dX9_hosts_183 : decode cX9_hosts 183 = .ok (.goto (-92), 3) := by decide +kernel
theorem dX9_hosts_186 : decode cX9_hosts 186 = .ok (.iload 5, 2) := by decide +kernel
theorem dX9_hosts_188 : decode cX9_hosts 188 = .ok (.ireturn, 1) := by decide +kernel
theorem dX9_lay_0 : decode cX9_lay 0 = .ok (.lload_n 1, 1) := by decide +kernel
theorem dX9_lay_1 : decode cX9_lay 1 = .ok (.lstore 5, 2) := by decide +kernel
theorem dX9_lay_3 : decode cX9_lay 3 = .ok (.lload_n 3, 1) := by decide +kernel
theorem dX9_lay_4 : decode cX9_lay 4 = .ok (.lstore 7, 2) := by decide +kernel
theorem dX9_lay_6 : decode cX9_lay 6 = .ok (.lload 7, 2) := by decide +kernel
theorem dX9_lay_8 : decode cX9_lay 8 = .ok (.lconst 0, 1) := by decide +kernel
theorem dX9_lay_9 : decode cX9_lay 9 = .ok (.lcmp, 1) := by decide +kernel
theorem dX9_lay_10 : decode cX9_lay 10 = .ok (.ifCond .eq 21, 3) := by decide +kernel
theorem dX9_lay_13 : decode cX9_lay 13 = .ok (.lload 5, 2) := by decide +kernel
theorem dX9_lay_15 : decode cX9_lay 15 = .ok (.lload 7, 2) := by decide +kernel
theorem dX9_lay_17 : decode cX9_lay 17 = .ok (.lrem, 1) := by decide +kernel
theorem dX9_lay_18 : decode cX9_lay 18 = .ok (.lstore 9, 2) := by decide +kernel
theorem dX9_lay_20 : decode cX9_lay 20 = .ok (.lload 7, 2) := by decide +kernel
theorem dX9_lay_22 : decode cX9_lay 22 = .ok (.lstore 5, 2) := by decide +kernel
theorem dX9_lay_24 : decode cX9_lay 24 = .ok (.lload 9, 2) := by decide +kernel
theorem dX9_lay_26 : decode cX9_lay 26 = .ok (.lstore 7, 2) := by decide +kernel
theorem dX9_lay_28 : decode cX9_lay 28 = .ok (.goto (-22), 3) := by decide +kernel
theorem dX9_lay_31 : decode cX9_lay 31 = .ok (.aload_n 0, 1) := by decide +kernel
theorem dX9_lay_32 : decode cX9_lay 32 = .ok (.lload_n 1, 1) := by decide +kernel
theorem dX9_lay_33 : decode cX9_lay 33 = .ok (.lload 5, 2) := by decide +kernel
theorem dX9_lay_35 : decode cX9_lay 35 = .ok (.ldiv, 1) := by decide +kernel
theorem dX9_lay_36 : decode cX9_lay 36 = .ok (.putfield 274, 3) := by decide +kernel
theorem dX9_lay_39 : decode cX9_lay 39 = .ok (.aload_n 0, 1) := by decide +kernel
theorem dX9_lay_40 : decode cX9_lay 40 = .ok (.lload_n 3, 1) := by decide +kernel
theorem dX9_lay_41 : decode cX9_lay 41 = .ok (.lload 5, 2) := by decide +kernel
theorem dX9_lay_43 : decode cX9_lay 43 = .ok (.ldiv, 1) := by decide +kernel
theorem dX9_lay_44 : decode cX9_lay 44 = .ok (.putfield 56, 3) := by decide +kernel
theorem dX9_lay_47 : decode cX9_lay 47 = .ok (.return_, 1) := by decide +kernel
theorem dX9_slips_0 : decode cX9_slips 0 = .ok (.aload_n 0, 1) := by decide +kernel
theorem dX9_slips_1 : decode cX9_slips 1 = .ok (.iload_n 1, 1) := by decide +kernel
theorem dX9_slips_2 : decode cX9_slips 2 = .ok (.invokevirtual 216, 3) := by decide +kernel
theorem dX9_slips_5 : decode cX9_slips 5 = .ok (.ifCond .eq 20, 3) := by decide +kernel
theorem dX9_slips_8 : decode cX9_slips 8 = .ok (.iload_n 2, 1) := by decide +kernel
theorem dX9_slips_9 : decode cX9_slips 9 = .ok (.invokestatic 219, 3) := by decide +kernel
theorem dX9_slips_12 : decode cX9_slips 12 = .ok (.ifCond .eq 13, 3) := by decide +kernel
theorem dX9_slips_15 : decode cX9_slips 15 = .ok (.iload_n 3, 1) := by decide +kernel
theorem dX9_slips_16 : decode cX9_slips 16 = .ok (.iconst 0, 1) := by decide +kernel
theorem dX9_slips_17 : decode cX9_slips 17 = .ok (.bipush 10, 2) := by decide +kernel
theorem dX9_slips_19 : decode cX9_slips 19 = .ok (.invokestatic 91, 3) := by decide +kernel
theorem dX9_slips_22 : decode cX9_slips 22 = .ok (.ifCond .ne 8, 3) := by decide +kernel
theorem dX9_slips_25 : decode cX9_slips 25 = .ok (.aload_n 0, 1) := by decide +kernel
theorem dX9_slips_26 : decode cX9_slips 26 = .ok (.invokevirtual 95, 3) := by decide +kernel
theorem dX9_slips_29 : decode cX9_slips 29 = .ok (.ireturn, 1) := by decide +kernel
theorem dX9_slips_30 : decode cX9_slips 30 = .ok (.aload_n 0, 1) := by decide +kernel
theorem dX9_slips_31 : decode cX9_slips 31 = .ok (.invokevirtual 210, 3) := by decide +kernel
theorem dX9_slips_34 : decode cX9_slips 34 = .ok (.istore 4, 2) := by decide +kernel
theorem dX9_slips_36 : decode cX9_slips 36 = .ok (.aload_n 0, 1) := by decide +kernel
theorem dX9_slips_37 : decode cX9_slips 37 = .ok (.iload_n 2, 1) := by decide +kernel
theorem dX9_slips_38 : decode cX9_slips 38 = .ok (.invokevirtual 238, 3) := by decide +kernel
theorem dX9_slips_41 : decode cX9_slips 41 = .ok (.iconst 1, 1) := by decide +kernel
theorem dX9_slips_42 : decode cX9_slips 42 = .ok (.iload_n 1, 1) := by decide +kernel
theorem dX9_slips_43 : decode cX9_slips 43 = .ok (.ishl, 1) := by decide +kernel
theorem dX9_slips_44 : decode cX9_slips 44 = .ok (.iconst (-1), 1) := by decide +kernel
theorem dX9_slips_45 : decode cX9_slips 45 = .ok (.ixor, 1) := by decide +kernel
theorem dX9_slips_46 : decode cX9_slips 46 = .ok (.iand, 1) := by decide +kernel
theorem dX9_slips_47 : decode cX9_slips 47 = .ok (.istore 5, 2) := by decide +kernel
theorem dX9_slips_49 : decode cX9_slips 49 = .ok (.lconst 0, 1) := by decide +kernel
theorem dX9_slips_50 : decode cX9_slips 50 = .ok (.lstore 6, 2) := by decide +kernel
theorem dX9_slips_52 : decode cX9_slips 52 = .ok (.lconst 1, 1) := by decide +kernel
theorem dX9_slips_53 : decode cX9_slips 53 = .ok (.lstore 8, 2) := by decide +kernel
theorem dX9_slips_55 : decode cX9_slips 55 = .ok (.iconst 0, 1) := by decide +kernel
theorem dX9_slips_56 : decode cX9_slips 56 = .ok (.istore 10, 2) := by decide +kernel
theorem dX9_slips_58 : decode cX9_slips 58 = .ok (.iload 10, 2) := by decide +kernel
theorem dX9_slips_60 : decode cX9_slips 60 = .ok (.aload_n 0, 1) := by decide +kernel
theorem dX9_slips_61 : decode cX9_slips 61 = .ok (.getfield 69, 3) := by decide +kernel
theorem dX9_slips_64 : decode cX9_slips 64 = .ok (.if_icmp .ge 31, 3) := by decide +kernel
theorem dX9_slips_67 : decode cX9_slips 67 = .ok (.lload 8, 2) := by decide +kernel
theorem dX9_slips_69 : decode cX9_slips 69 = .ok (.iload 5, 2) := by decide +kernel
theorem dX9_slips_71 : decode cX9_slips 71 = .ok (.iload 10, 2) := by decide +kernel
theorem dX9_slips_73 : decode cX9_slips 73 = .ok (.invokestatic 189, 3) := by decide +kernel
theorem dX9_slips_76 : decode cX9_slips 76 = .ok (.ifCond .eq 9, 3) := by decide +kernel
theorem dX9_slips_79 : decode cX9_slips 79 = .ok (.ldc2_w 277, 3) := by decide +kernel
theorem dX9_slips_82 : decode cX9_slips 82 = .ok (.goto 4, 3) := by decide +kernel
theorem dX9_slips_85 : decode cX9_slips 85 = .ok (.lconst 1, 1) := by decide +kernel
theorem dX9_slips_86 : decode cX9_slips 86 = .ok (.lmul, 1) := by decide +kernel
theorem dX9_slips_87 : decode cX9_slips 87 = .ok (.lstore 8, 2) := by decide +kernel
theorem dX9_slips_89 : decode cX9_slips 89 = .ok (.iinc 10 1, 3) := by decide +kernel
theorem dX9_slips_92 : decode cX9_slips 92 = .ok (.goto (-34), 3) := by decide +kernel
theorem dX9_slips_95 : decode cX9_slips 95 = .ok (.iconst 0, 1) := by decide +kernel
theorem dX9_slips_96 : decode cX9_slips 96 = .ok (.istore 10, 2) := by decide +kernel
theorem dX9_slips_98 : decode cX9_slips 98 = .ok (.iload 10, 2) := by decide +kernel
theorem dX9_slips_100 : decode cX9_slips 100 = .ok (.iload 5, 2) := by decide +kernel
theorem dX9_slips_102 : decode cX9_slips 102 = .ok (.if_icmp .gt 146, 3) := by decide +kernel
theorem dX9_slips_105 : decode cX9_slips 105 = .ok (.iload 10, 2) := by decide +kernel
theorem dX9_slips_107 : decode cX9_slips 107 = .ok (.iload 5, 2) := by decide +kernel
theorem dX9_slips_109 : decode cX9_slips 109 = .ok (.iconst (-1), 1) := by decide +kernel
theorem dX9_slips_110 : decode cX9_slips 110 = .ok (.ixor, 1) := by decide +kernel
theorem dX9_slips_111 : decode cX9_slips 111 = .ok (.iand, 1) := by decide +kernel
theorem dX9_slips_112 : decode cX9_slips 112 = .ok (.ifCond .ne 130, 3) := by decide +kernel
theorem dX9_slips_115 : decode cX9_slips 115 = .ok (.iconst 0, 1) := by decide +kernel
theorem dX9_slips_116 : decode cX9_slips 116 = .ok (.istore 11, 2) := by decide +kernel
theorem dX9_slips_118 : decode cX9_slips 118 = .ok (.lconst 1, 1) := by decide +kernel
theorem dX9_slips_119 : decode cX9_slips 119 = .ok (.lstore 12, 2) := by decide +kernel
theorem dX9_slips_121 : decode cX9_slips 121 = .ok (.iconst 0, 1) := by decide +kernel
theorem dX9_slips_122 : decode cX9_slips 122 = .ok (.istore 14, 2) := by decide +kernel
theorem dX9_slips_124 : decode cX9_slips 124 = .ok (.iload 14, 2) := by decide +kernel
theorem dX9_slips_126 : decode cX9_slips 126 = .ok (.aload_n 0, 1) := by decide +kernel
theorem dX9_slips_127 : decode cX9_slips 127 = .ok (.getfield 69, 3) := by decide +kernel
theorem dX9_slips_130 : decode cX9_slips 130 = .ok (.if_icmp .ge 75, 3) := by decide +kernel
theorem dX9_slips_133 : decode cX9_slips 133 = .ok (.iload 11, 2) := by decide +kernel
theorem dX9_slips_135 : decode cX9_slips 135 = .ok (.iload 10, 2) := by decide +kernel
theorem dX9_slips_137 : decode cX9_slips 137 = .ok (.iload 14, 2) := by decide +kernel
theorem dX9_slips_139 : decode cX9_slips 139 = .ok (.invokestatic 189, 3) := by decide +kernel
theorem dX9_slips_142 : decode cX9_slips 142 = .ok (.ifCond .eq 14, 3) := by decide +kernel
theorem dX9_slips_145 : decode cX9_slips 145 = .ok (.aload_n 0, 1) := by decide +kernel
theorem dX9_slips_146 : decode cX9_slips 146 = .ok (.iload 14, 2) := by decide +kernel
theorem dX9_slips_148 : decode cX9_slips 148 = .ok (.iload 4, 2) := by decide +kernel
theorem dX9_slips_150 : decode cX9_slips 150 = .ok (.invokevirtual 192, 3) := by decide +kernel
theorem dX9_slips_153 : decode cX9_slips 153 = .ok (.goto 4, 3) := by decide +kernel
theorem dX9_slips_156 : decode cX9_slips 156 = .ok (.iconst 0, 1) := by decide +kernel
theorem dX9_slips_157 : decode cX9_slips 157 = .ok (.iadd, 1) := by decide +kernel
theorem dX9_slips_158 : decode cX9_slips 158 = .ok (.istore 11, 2) := by decide +kernel
theorem dX9_slips_160 : decode cX9_slips 160 = .ok (.lload 12, 2) := by decide +kernel
theorem dX9_slips_162 : decode cX9_slips 162 = .ok (.iload 5, 2) := by decide +kernel
theorem dX9_slips_164 : decode cX9_slips 164 = .ok (.iload 14, 2) := by decide +kernel
theorem dX9_slips_166 : decode cX9_slips 166 = .ok (.invokestatic 189, 3) := by decide +kernel
theorem dX9_slips_169 : decode cX9_slips 169 = .ok (.ifCond .ne 7, 3) := by decide +kernel
theorem dX9_slips_172 : decode cX9_slips 172 = .ok (.lconst 1, 1) := by decide +kernel
theorem dX9_slips_173 : decode cX9_slips 173 = .ok (.goto 23, 3) := by decide +kernel
theorem dX9_slips_176 : decode cX9_slips 176 = .ok (.iload 10, 2) := by decide +kernel
theorem dX9_slips_178 : decode cX9_slips 178 = .ok (.iload 14, 2) := by decide +kernel
theorem dX9_slips_180 : decode cX9_slips 180 = .ok (.invokestatic 189, 3) := by decide +kernel
theorem dX9_slips_183 : decode cX9_slips 183 = .ok (.ifCond .eq 11, 3) := by decide +kernel
theorem dX9_slips_186 : decode cX9_slips 186 = .ok (.bipush 10, 2) := by decide +kernel
theorem dX9_slips_188 : decode cX9_slips 188 = .ok (.iload_n 3, 1) := by decide +kernel
theorem dX9_slips_189 : decode cX9_slips 189 = .ok (.isub, 1) := by decide +kernel
theorem dX9_slips_190 : decode cX9_slips 190 = .ok (.i2l, 1) := by decide +kernel
theorem dX9_slips_191 : decode cX9_slips 191 = .ok (.goto 5, 3) := by decide +kernel
theorem dX9_slips_194 : decode cX9_slips 194 = .ok (.iload_n 3, 1) := by decide +kernel
theorem dX9_slips_195 : decode cX9_slips 195 = .ok (.i2l, 1) := by decide +kernel
theorem dX9_slips_196 : decode cX9_slips 196 = .ok (.lmul, 1) := by decide +kernel
theorem dX9_slips_197 : decode cX9_slips 197 = .ok (.lstore 12, 2) := by decide +kernel
theorem dX9_slips_199 : decode cX9_slips 199 = .ok (.iinc 14 1, 3) := by decide +kernel
theorem dX9_slips_202 : decode cX9_slips 202 = .ok (.goto (-78), 3) := by decide +kernel
theorem dX9_slips_205 : decode cX9_slips 205 = .ok (.lload 6, 2) := by decide +kernel
theorem dX9_slips_207 : decode cX9_slips 207 = .ok (.aload_n 0, 1) := by decide +kernel
theorem dX9_slips_208 : decode cX9_slips 208 = .ok (.getfield 22, 3) := by decide +kernel
theorem dX9_slips_211 : decode cX9_slips 211 = .ok (.iload_n 1, 1) := by decide +kernel
theorem dX9_slips_212 : decode cX9_slips 212 = .ok (.iaload, 1) := by decide +kernel
theorem dX9_slips_213 : decode cX9_slips 213 = .ok (.iload_n 2, 1) := by decide +kernel
theorem dX9_slips_214 : decode cX9_slips 214 = .ok (.invokestatic 189, 3) := by decide +kernel
theorem dX9_slips_217 : decode cX9_slips 217 = .ok (.ifCond .ne 16, 3) := by decide +kernel
theorem dX9_slips_220 : decode cX9_slips 220 = .ok (.iload 11, 2) := by decide +kernel
theorem dX9_slips_222 : decode cX9_slips 222 = .ok (.aload_n 0, 1) := by decide +kernel
theorem dX9_slips_223 : decode cX9_slips 223 = .ok (.iload_n 1, 1) := by decide +kernel
theorem dX9_slips_224 : decode cX9_slips 224 = .ok (.iload_n 2, 1) := by decide +kernel
theorem dX9_slips_225 : decode cX9_slips 225 = .ok (.iload 4, 2) := by decide +kernel
theorem dX9_slips_227 : decode cX9_slips 227 = .ok (.invokevirtual 198, 3) := by decide +kernel
theorem dX9_slips_230 : decode cX9_slips 230 = .ok (.if_icmp .lt 8, 3) := by decide +kernel
theorem dX9_slips_233 : decode cX9_slips 233 = .ok (.lload 12, 2) := by decide +kernel
theorem dX9_slips_235 : decode cX9_slips 235 = .ok (.goto 4, 3) := by decide +kernel
theorem dX9_slips_238 : decode cX9_slips 238 = .ok (.lconst 0, 1) := by decide +kernel
theorem dX9_slips_239 : decode cX9_slips 239 = .ok (.ladd, 1) := by decide +kernel
theorem dX9_slips_240 : decode cX9_slips 240 = .ok (.lstore 6, 2) := by decide +kernel
theorem dX9_slips_242 : decode cX9_slips 242 = .ok (.iinc 10 1, 3) := by decide +kernel
theorem dX9_slips_245 : decode cX9_slips 245 = .ok (.goto (-147), 3) := by decide +kernel
theorem dX9_slips_248 : decode cX9_slips 248 = .ok (.aload_n 0, 1) := by decide +kernel
theorem dX9_slips_249 : decode cX9_slips 249 = .ok (.lload 6, 2) := by decide +kernel
theorem dX9_slips_251 : decode cX9_slips 251 = .ok (.lload 8, 2) := by decide +kernel
theorem dX9_slips_253 : decode cX9_slips 253 = .ok (.invokevirtual 279, 3) := by decide +kernel
theorem dX9_slips_256 : decode cX9_slips 256 = .ok (.iconst 1, 1) := by decide +kernel
theorem dX9_slips_257 : decode cX9_slips 257 = .ok (.ireturn, 1) := by decide +kernel
theorem dX9_evenings_0 : decode cX9_evenings 0 = .ok (.iload_n 1, 1) := by decide +kernel
theorem dX9_evenings_1 : decode cX9_evenings 1 = .ok (.iconst 0, 1) := by decide +kernel
theorem dX9_evenings_2 : decode cX9_evenings 2 = .ok (.ldc_w 283, 3) := by decide +kernel
theorem dX9_evenings_5 : decode cX9_evenings 5 = .ok (.invokestatic 91, 3) := by decide +kernel
theorem dX9_evenings_8 : decode cX9_evenings 8 = .ok (.ifCond .eq 13, 3) := by decide +kernel
theorem dX9_evenings_11 : decode cX9_evenings 11 = .ok (.iload_n 2, 1) := by decide +kernel
theorem dX9_evenings_12 : decode cX9_evenings 12 = .ok (.iconst 0, 1) := by decide +kernel
theorem dX9_evenings_13 : decode cX9_evenings 13 = .ok (.bipush 60, 2) := by decide +kernel
theorem dX9_evenings_15 : decode cX9_evenings 15 = .ok (.invokestatic 91, 3) := by decide +kernel
theorem dX9_evenings_18 : decode cX9_evenings 18 = .ok (.ifCond .ne 8, 3) := by decide +kernel
theorem dX9_evenings_21 : decode cX9_evenings 21 = .ok (.aload_n 0, 1) := by decide +kernel
theorem dX9_evenings_22 : decode cX9_evenings 22 = .ok (.invokevirtual 95, 3) := by decide +kernel
theorem dX9_evenings_25 : decode cX9_evenings 25 = .ok (.ireturn, 1) := by decide +kernel
theorem dX9_evenings_26 : decode cX9_evenings 26 = .ok (.aload_n 0, 1) := by decide +kernel
theorem dX9_evenings_27 : decode cX9_evenings 27 = .ok (.aload_n 0, 1) := by decide +kernel
theorem dX9_evenings_28 : decode cX9_evenings 28 = .ok (.getfield 46, 3) := by decide +kernel
theorem dX9_evenings_31 : decode cX9_evenings 31 = .ok (.iconst 0, 1) := by decide +kernel
theorem dX9_evenings_32 : decode cX9_evenings 32 = .ok (.invokevirtual 207, 3) := by decide +kernel
theorem dX9_evenings_35 : decode cX9_evenings 35 = .ok (.iload_n 1, 1) := by decide +kernel
theorem dX9_evenings_36 : decode cX9_evenings 36 = .ok (.i2l, 1) := by decide +kernel
theorem dX9_evenings_37 : decode cX9_evenings 37 = .ok (.lstore_n 3, 1) := by decide +kernel
theorem dX9_evenings_38 : decode cX9_evenings 38 = .ok (.iconst 0, 1) := by decide +kernel
theorem dX9_evenings_39 : decode cX9_evenings 39 = .ok (.istore 5, 2) := by decide +kernel
theorem dX9_evenings_41 : decode cX9_evenings 41 = .ok (.iload 5, 2) := by decide +kernel
theorem dX9_evenings_43 : decode cX9_evenings 43 = .ok (.iload_n 2, 1) := by decide +kernel
theorem dX9_evenings_44 : decode cX9_evenings 44 = .ok (.if_icmp .ge 68, 3) := by decide +kernel
theorem dX9_evenings_47 : decode cX9_evenings 47 = .ok (.lload_n 3, 1) := by decide +kernel
theorem dX9_evenings_48 : decode cX9_evenings 48 = .ok (.ldc2_w 284, 3) := by decide +kernel
theorem dX9_evenings_51 : decode cX9_evenings 51 = .ok (.lmul, 1) := by decide +kernel
theorem dX9_evenings_52 : decode cX9_evenings 52 = .ok (.ldc2_w 286, 3) := by decide +kernel
theorem dX9_evenings_55 : decode cX9_evenings 55 = .ok (.ladd, 1) := by decide +kernel
theorem dX9_evenings_56 : decode cX9_evenings 56 = .ok (.ldc2_w 288, 3) := by decide +kernel
theorem dX9_evenings_59 : decode cX9_evenings 59 = .ok (.lrem, 1) := by decide +kernel
theorem dX9_evenings_60 : decode cX9_evenings 60 = .ok (.lstore_n 3, 1) := by decide +kernel
theorem dX9_evenings_61 : decode cX9_evenings 61 = .ok (.lload_n 3, 1) := by decide +kernel
theorem dX9_evenings_62 : decode cX9_evenings 62 = .ok (.ldc2_w 290, 3) := by decide +kernel
theorem dX9_evenings_65 : decode cX9_evenings 65 = .ok (.ldiv, 1) := by decide +kernel
theorem dX9_evenings_66 : decode cX9_evenings 66 = .ok (.ldc2_w 292, 3) := by decide +kernel
theorem dX9_evenings_69 : decode cX9_evenings 69 = .ok (.lrem, 1) := by decide +kernel
theorem dX9_evenings_70 : decode cX9_evenings 70 = .ok (.l2i, 1) := by decide +kernel
theorem dX9_evenings_71 : decode cX9_evenings 71 = .ok (.istore 6, 2) := by decide +kernel
theorem dX9_evenings_73 : decode cX9_evenings 73 = .ok (.lload_n 3, 1) := by decide +kernel
theorem dX9_evenings_74 : decode cX9_evenings 74 = .ok (.ldc2_w 294, 3) := by decide +kernel
theorem dX9_evenings_77 : decode cX9_evenings 77 = .ok (.ldiv, 1) := by decide +kernel
theorem dX9_evenings_78 : decode cX9_evenings 78 = .ok (.ldc2_w 296, 3) := by decide +kernel
theorem dX9_evenings_81 : decode cX9_evenings 81 = .ok (.lrem, 1) := by decide +kernel
theorem dX9_evenings_82 : decode cX9_evenings 82 = .ok (.l2i, 1) := by decide +kernel
theorem dX9_evenings_83 : decode cX9_evenings 83 = .ok (.istore 7, 2) := by decide +kernel
theorem dX9_evenings_85 : decode cX9_evenings 85 = .ok (.aload_n 0, 1) := by decide +kernel
theorem dX9_evenings_86 : decode cX9_evenings 86 = .ok (.iload 6, 2) := by decide +kernel
theorem dX9_evenings_88 : decode cX9_evenings 88 = .ok (.invokevirtual 216, 3) := by decide +kernel
theorem dX9_evenings_91 : decode cX9_evenings 91 = .ok (.ifCond .eq 11, 3) := by decide +kernel
theorem dX9_evenings_94 : decode cX9_evenings 94 = .ok (.aload_n 0, 1) := by decide +kernel
theorem dX9_evenings_95 : decode cX9_evenings 95 = .ok (.iload 6, 2) := by decide +kernel
theorem dX9_evenings_97 : decode cX9_evenings 97 = .ok (.iload 7, 2) := by decide +kernel
theorem dX9_evenings_99 : decode cX9_evenings 99 = .ok (.invokevirtual 228, 3) := by decide +kernel
theorem dX9_evenings_102 : decode cX9_evenings 102 = .ok (.aload_n 0, 1) := by decide +kernel
theorem dX9_evenings_103 : decode cX9_evenings 103 = .ok (.invokevirtual 204, 3) := by decide +kernel
theorem dX9_evenings_106 : decode cX9_evenings 106 = .ok (.iinc 5 1, 3) := by decide +kernel
theorem dX9_evenings_109 : decode cX9_evenings 109 = .ok (.goto (-68), 3) := by decide +kernel
theorem dX9_evenings_112 : decode cX9_evenings 112 = .ok (.aload_n 0, 1) := by decide +kernel
theorem dX9_evenings_113 : decode cX9_evenings 113 = .ok (.invokevirtual 235, 3) := by decide +kernel
theorem dX9_evenings_116 : decode cX9_evenings 116 = .ok (.istore 5, 2) := by decide +kernel
theorem dX9_evenings_118 : decode cX9_evenings 118 = .ok (.aload_n 0, 1) := by decide +kernel
theorem dX9_evenings_119 : decode cX9_evenings 119 = .ok (.aload_n 0, 1) := by decide +kernel
theorem dX9_evenings_120 : decode cX9_evenings 120 = .ok (.getfield 46, 3) := by decide +kernel
theorem dX9_evenings_123 : decode cX9_evenings 123 = .ok (.iconst 0, 1) := by decide +kernel
theorem dX9_evenings_124 : decode cX9_evenings 124 = .ok (.invokevirtual 241, 3) := by decide +kernel
theorem dX9_evenings_127 : decode cX9_evenings 127 = .ok (.iload 5, 2) := by decide +kernel
theorem dX9_evenings_129 : decode cX9_evenings 129 = .ok (.ireturn, 1) := by decide +kernel
theorem dX9_part_0 : decode cX9_part 0 = .ok (.iload_n 1, 1) := by decide +kernel
theorem dX9_part_1 : decode cX9_part 1 = .ok (.ifCond .ne 10, 3) := by decide +kernel
theorem dX9_part_4 : decode cX9_part 4 = .ok (.aload_n 0, 1) := by decide +kernel
theorem dX9_part_5 : decode cX9_part 5 = .ok (.getfield 274, 3) := by decide +kernel
theorem dX9_part_8 : decode cX9_part 8 = .ok (.goto 20, 3) := by decide +kernel
theorem dX9_part_11 : decode cX9_part 11 = .ok (.iload_n 1, 1) := by decide +kernel
theorem dX9_part_12 : decode cX9_part 12 = .ok (.iconst 1, 1) := by decide +kernel
theorem dX9_part_13 : decode cX9_part 13 = .ok (.if_icmp .ne 10, 3) := by decide +kernel
theorem dX9_part_16 : decode cX9_part 16 = .ok (.aload_n 0, 1) := by decide +kernel
theorem dX9_part_17 : decode cX9_part 17 = .ok (.getfield 56, 3) := by decide +kernel
theorem dX9_part_20 : decode cX9_part 20 = .ok (.goto 8, 3) := by decide +kernel
theorem dX9_part_23 : decode cX9_part 23 = .ok (.aload_n 0, 1) := by decide +kernel
theorem dX9_part_24 : decode cX9_part 24 = .ok (.invokevirtual 95, 3) := by decide +kernel
theorem dX9_part_27 : decode cX9_part 27 = .ok (.i2l, 1) := by decide +kernel
theorem dX9_part_28 : decode cX9_part 28 = .ok (.lreturn, 1) := by decide +kernel
theorem dX9_layAll_0 : decode cX9_layAll 0 = .ok (.aload_n 0, 1) := by decide +kernel
theorem dX9_layAll_1 : decode cX9_layAll 1 = .ok (.aload_n 1, 1) := by decide +kernel
theorem dX9_layAll_2 : decode cX9_layAll 2 = .ok (.iload_n 2, 1) := by decide +kernel
theorem dX9_layAll_3 : decode cX9_layAll 3 = .ok (.invokevirtual 207, 3) := by decide +kernel
theorem dX9_layAll_6 : decode cX9_layAll 6 = .ok (.aload_n 1, 1) := by decide +kernel
theorem dX9_layAll_7 : decode cX9_layAll 7 = .ok (.iload_n 2, 1) := by decide +kernel
theorem dX9_layAll_8 : decode cX9_layAll 8 = .ok (.bipush 22, 2) := by decide +kernel
theorem dX9_layAll_10 : decode cX9_layAll 10 = .ok (.iadd, 1) := by decide +kernel
theorem dX9_layAll_11 : decode cX9_layAll 11 = .ok (.aload_n 0, 1) := by decide +kernel
theorem dX9_layAll_12 : decode cX9_layAll 12 = .ok (.getfield 69, 3) := by decide +kernel
theorem dX9_layAll_15 : decode cX9_layAll 15 = .ok (.iastore, 1) := by decide +kernel
theorem dX9_layAll_16 : decode cX9_layAll 16 = .ok (.aload_n 1, 1) := by decide +kernel
theorem dX9_layAll_17 : decode cX9_layAll 17 = .ok (.iload_n 2, 1) := by decide +kernel
theorem dX9_layAll_18 : decode cX9_layAll 18 = .ok (.bipush 23, 2) := by decide +kernel
theorem dX9_layAll_20 : decode cX9_layAll 20 = .ok (.iadd, 1) := by decide +kernel
theorem dX9_layAll_21 : decode cX9_layAll 21 = .ok (.aload_n 0, 1) := by decide +kernel
theorem dX9_layAll_22 : decode cX9_layAll 22 = .ok (.getfield 79, 3) := by decide +kernel
theorem dX9_layAll_25 : decode cX9_layAll 25 = .ok (.iastore, 1) := by decide +kernel
theorem dX9_layAll_26 : decode cX9_layAll 26 = .ok (.aload_n 1, 1) := by decide +kernel
theorem dX9_layAll_27 : decode cX9_layAll 27 = .ok (.iload_n 2, 1) := by decide +kernel
theorem dX9_layAll_28 : decode cX9_layAll 28 = .ok (.bipush 24, 2) := by decide +kernel
theorem dX9_layAll_30 : decode cX9_layAll 30 = .ok (.iadd, 1) := by decide +kernel
theorem dX9_layAll_31 : decode cX9_layAll 31 = .ok (.aload_n 0, 1) := by decide +kernel
theorem dX9_layAll_32 : decode cX9_layAll 32 = .ok (.getfield 82, 3) := by decide +kernel
theorem dX9_layAll_35 : decode cX9_layAll 35 = .ok (.iastore, 1) := by decide +kernel
theorem dX9_layAll_36 : decode cX9_layAll 36 = .ok (.aload_n 1, 1) := by decide +kernel
theorem dX9_layAll_37 : decode cX9_layAll 37 = .ok (.iload_n 2, 1) := by decide +kernel
theorem dX9_layAll_38 : decode cX9_layAll 38 = .ok (.bipush 25, 2) := by decide +kernel
theorem dX9_layAll_40 : decode cX9_layAll 40 = .ok (.iadd, 1) := by decide +kernel
theorem dX9_layAll_41 : decode cX9_layAll 41 = .ok (.aload_n 0, 1) := by decide +kernel
theorem dX9_layAll_42 : decode cX9_layAll 42 = .ok (.getfield 85, 3) := by decide +kernel
theorem dX9_layAll_45 : decode cX9_layAll 45 = .ok (.iastore, 1) := by decide +kernel
theorem dX9_layAll_46 : decode cX9_layAll 46 = .ok (.aload_n 1, 1) := by decide +kernel
theorem dX9_layAll_47 : decode cX9_layAll 47 = .ok (.iload_n 2, 1) := by decide +kernel
theorem dX9_layAll_48 : decode cX9_layAll 48 = .ok (.bipush 26, 2) := by decide +kernel
theorem dX9_layAll_50 : decode cX9_layAll 50 = .ok (.iadd, 1) := by decide +kernel
theorem dX9_layAll_51 : decode cX9_layAll 51 = .ok (.aload_n 0, 1) := by decide +kernel
theorem dX9_layAll_52 : decode cX9_layAll 52 = .ok (.getfield 88, 3) := by decide +kernel
theorem dX9_layAll_55 : decode cX9_layAll 55 = .ok (.iastore, 1) := by decide +kernel
theorem dX9_layAll_56 : decode cX9_layAll 56 = .ok (.iconst 0, 1) := by decide +kernel
theorem dX9_layAll_57 : decode cX9_layAll 57 = .ok (.istore_n 3, 1) := by decide +kernel
theorem dX9_layAll_58 : decode cX9_layAll 58 = .ok (.iload_n 3, 1) := by decide +kernel
theorem dX9_layAll_59 : decode cX9_layAll 59 = .ok (.bipush 6, 2) := by decide +kernel
theorem dX9_layAll_61 : decode cX9_layAll 61 = .ok (.if_icmp .ge 37, 3) := by decide +kernel
theorem dX9_layAll_64 : decode cX9_layAll 64 = .ok (.aload_n 1, 1) := by decide +kernel
theorem dX9_layAll_65 : decode cX9_layAll 65 = .ok (.iload_n 2, 1) := by decide +kernel
theorem dX9_layAll_66 : decode cX9_layAll 66 = .ok (.bipush 27, 2) := by decide +kernel
theorem dX9_layAll_68 : decode cX9_layAll 68 = .ok (.iadd, 1) := by decide +kernel
theorem dX9_layAll_69 : decode cX9_layAll 69 = .ok (.iload_n 3, 1) := by decide +kernel
theorem dX9_layAll_70 : decode cX9_layAll 70 = .ok (.iadd, 1) := by decide +kernel
theorem dX9_layAll_71 : decode cX9_layAll 71 = .ok (.aload_n 0, 1) := by decide +kernel
theorem dX9_layAll_72 : decode cX9_layAll 72 = .ok (.getfield 13, 3) := by decide +kernel
theorem dX9_layAll_75 : decode cX9_layAll 75 = .ok (.iload_n 3, 1) := by decide +kernel
theorem dX9_layAll_76 : decode cX9_layAll 76 = .ok (.iaload, 1) := by decide +kernel
theorem dX9_layAll_77 : decode cX9_layAll 77 = .ok (.iastore, 1) := by decide +kernel
theorem dX9_layAll_78 : decode cX9_layAll 78 = .ok (.aload_n 1, 1) := by decide +kernel
theorem dX9_layAll_79 : decode cX9_layAll 79 = .ok (.iload_n 2, 1) := by decide +kernel
theorem dX9_layAll_80 : decode cX9_layAll 80 = .ok (.bipush 33, 2) := by decide +kernel
theorem dX9_layAll_82 : decode cX9_layAll 82 = .ok (.iadd, 1) := by decide +kernel
theorem dX9_layAll_83 : decode cX9_layAll 83 = .ok (.iload_n 3, 1) := by decide +kernel
theorem dX9_layAll_84 : decode cX9_layAll 84 = .ok (.iadd, 1) := by decide +kernel
theorem dX9_layAll_85 : decode cX9_layAll 85 = .ok (.aload_n 0, 1) := by decide +kernel
theorem dX9_layAll_86 : decode cX9_layAll 86 = .ok (.getfield 16, 3) := by decide +kernel
theorem dX9_layAll_89 : decode cX9_layAll 89 = .ok (.iload_n 3, 1) := by decide +kernel
theorem dX9_layAll_90 : decode cX9_layAll 90 = .ok (.iaload, 1) := by decide +kernel
theorem dX9_layAll_91 : decode cX9_layAll 91 = .ok (.iastore, 1) := by decide +kernel
theorem dX9_layAll_92 : decode cX9_layAll 92 = .ok (.iinc 3 1, 3) := by decide +kernel
theorem dX9_layAll_95 : decode cX9_layAll 95 = .ok (.goto (-37), 3) := by decide +kernel
theorem dX9_layAll_98 : decode cX9_layAll 98 = .ok (.iconst 0, 1) := by decide +kernel
theorem dX9_layAll_99 : decode cX9_layAll 99 = .ok (.istore_n 3, 1) := by decide +kernel
theorem dX9_layAll_100 : decode cX9_layAll 100 = .ok (.iload_n 3, 1) := by decide +kernel
theorem dX9_layAll_101 : decode cX9_layAll 101 = .ok (.bipush 18, 2) := by decide +kernel
theorem dX9_layAll_103 : decode cX9_layAll 103 = .ok (.if_icmp .ge 23, 3) := by decide +kernel
theorem dX9_layAll_106 : decode cX9_layAll 106 = .ok (.aload_n 1, 1) := by decide +kernel
theorem dX9_layAll_107 : decode cX9_layAll 107 = .ok (.iload_n 2, 1) := by decide +kernel
theorem dX9_layAll_108 : decode cX9_layAll 108 = .ok (.bipush 39, 2) := by decide +kernel
theorem dX9_layAll_110 : decode cX9_layAll 110 = .ok (.iadd, 1) := by decide +kernel
theorem dX9_layAll_111 : decode cX9_layAll 111 = .ok (.iload_n 3, 1) := by decide +kernel
theorem dX9_layAll_112 : decode cX9_layAll 112 = .ok (.iadd, 1) := by decide +kernel
theorem dX9_layAll_113 : decode cX9_layAll 113 = .ok (.aload_n 0, 1) := by decide +kernel
theorem dX9_layAll_114 : decode cX9_layAll 114 = .ok (.getfield 28, 3) := by decide +kernel
theorem dX9_layAll_117 : decode cX9_layAll 117 = .ok (.iload_n 3, 1) := by decide +kernel
theorem dX9_layAll_118 : decode cX9_layAll 118 = .ok (.iaload, 1) := by decide +kernel
theorem dX9_layAll_119 : decode cX9_layAll 119 = .ok (.iastore, 1) := by decide +kernel
theorem dX9_layAll_120 : decode cX9_layAll 120 = .ok (.iinc 3 1, 3) := by decide +kernel
theorem dX9_layAll_123 : decode cX9_layAll 123 = .ok (.goto (-23), 3) := by decide +kernel
theorem dX9_layAll_126 : decode cX9_layAll 126 = .ok (.iconst 0, 1) := by decide +kernel
theorem dX9_layAll_127 : decode cX9_layAll 127 = .ok (.istore_n 3, 1) := by decide +kernel
theorem dX9_layAll_128 : decode cX9_layAll 128 = .ok (.iload_n 3, 1) := by decide +kernel
theorem dX9_layAll_129 : decode cX9_layAll 129 = .ok (.bipush 24, 2) := by decide +kernel
theorem dX9_layAll_131 : decode cX9_layAll 131 = .ok (.if_icmp .ge 37, 3) := by decide +kernel
theorem dX9_layAll_134 : decode cX9_layAll 134 = .ok (.aload_n 1, 1) := by decide +kernel
theorem dX9_layAll_135 : decode cX9_layAll 135 = .ok (.iload_n 2, 1) := by decide +kernel
theorem dX9_layAll_136 : decode cX9_layAll 136 = .ok (.bipush 57, 2) := by decide +kernel
theorem dX9_layAll_138 : decode cX9_layAll 138 = .ok (.iadd, 1) := by decide +kernel
theorem dX9_layAll_139 : decode cX9_layAll 139 = .ok (.iload_n 3, 1) := by decide +kernel
theorem dX9_layAll_140 : decode cX9_layAll 140 = .ok (.iadd, 1) := by decide +kernel
theorem dX9_layAll_141 : decode cX9_layAll 141 = .ok (.aload_n 0, 1) := by decide +kernel
theorem dX9_layAll_142 : decode cX9_layAll 142 = .ok (.getfield 31, 3) := by decide +kernel
theorem dX9_layAll_145 : decode cX9_layAll 145 = .ok (.iload_n 3, 1) := by decide +kernel
theorem dX9_layAll_146 : decode cX9_layAll 146 = .ok (.iaload, 1) := by decide +kernel
theorem dX9_layAll_147 : decode cX9_layAll 147 = .ok (.iastore, 1) := by decide +kernel
theorem dX9_layAll_148 : decode cX9_layAll 148 = .ok (.aload_n 1, 1) := by decide +kernel
theorem dX9_layAll_149 : decode cX9_layAll 149 = .ok (.iload_n 2, 1) := by decide +kernel
theorem dX9_layAll_150 : decode cX9_layAll 150 = .ok (.bipush 81, 2) := by decide +kernel
theorem dX9_layAll_152 : decode cX9_layAll 152 = .ok (.iadd, 1) := by decide +kernel
theorem dX9_layAll_153 : decode cX9_layAll 153 = .ok (.iload_n 3, 1) := by decide +kernel
theorem dX9_layAll_154 : decode cX9_layAll 154 = .ok (.iadd, 1) := by decide +kernel
theorem dX9_layAll_155 : decode cX9_layAll 155 = .ok (.aload_n 0, 1) := by decide +kernel
theorem dX9_layAll_156 : decode cX9_layAll 156 = .ok (.getfield 34, 3) := by decide +kernel
theorem dX9_layAll_159 : decode cX9_layAll 159 = .ok (.iload_n 3, 1) := by decide +kernel
theorem dX9_layAll_160 : decode cX9_layAll 160 = .ok (.iaload, 1) := by decide +kernel
theorem dX9_layAll_161 : decode cX9_layAll 161 = .ok (.iastore, 1) := by decide +kernel
theorem dX9_layAll_162 : decode cX9_layAll 162 = .ok (.iinc 3 1, 3) := by decide +kernel
theorem dX9_layAll_165 : decode cX9_layAll 165 = .ok (.goto (-37), 3) := by decide +kernel
theorem dX9_layAll_168 : decode cX9_layAll 168 = .ok (.iconst 0, 1) := by decide +kernel
theorem dX9_layAll_169 : decode cX9_layAll 169 = .ok (.istore_n 3, 1) := by decide +kernel
theorem dX9_layAll_170 : decode cX9_layAll 170 = .ok (.iload_n 3, 1) := by decide +kernel
theorem dX9_layAll_171 : decode cX9_layAll 171 = .ok (.sipush 176, 3) := by decide +kernel
theorem dX9_layAll_174 : decode cX9_layAll 174 = .ok (.if_icmp .ge 23, 3) := by decide +kernel
theorem dX9_layAll_177 : decode cX9_layAll 177 = .ok (.aload_n 1, 1) := by decide +kernel
theorem dX9_layAll_178 : decode cX9_layAll 178 = .ok (.iload_n 2, 1) := by decide +kernel
theorem dX9_layAll_179 : decode cX9_layAll 179 = .ok (.bipush 105, 2) := by decide +kernel
theorem dX9_layAll_181 : decode cX9_layAll 181 = .ok (.iadd, 1) := by decide +kernel
theorem dX9_layAll_182 : decode cX9_layAll 182 = .ok (.iload_n 3, 1) := by decide +kernel
theorem dX9_layAll_183 : decode cX9_layAll 183 = .ok (.iadd, 1) := by decide +kernel
theorem dX9_layAll_184 : decode cX9_layAll 184 = .ok (.aload_n 0, 1) := by decide +kernel
theorem dX9_layAll_185 : decode cX9_layAll 185 = .ok (.getfield 43, 3) := by decide +kernel
theorem dX9_layAll_188 : decode cX9_layAll 188 = .ok (.iload_n 3, 1) := by decide +kernel
theorem dX9_layAll_189 : decode cX9_layAll 189 = .ok (.iaload, 1) := by decide +kernel
theorem dX9_layAll_190 : decode cX9_layAll 190 = .ok (.iastore, 1) := by decide +kernel
theorem dX9_layAll_191 : decode cX9_layAll 191 = .ok (.iinc 3 1, 3) := by decide +kernel
theorem dX9_layAll_194 : decode cX9_layAll 194 = .ok (.goto (-24), 3) := by decide +kernel
theorem dX9_layAll_197 : decode cX9_layAll 197 = .ok (.return_, 1) := by decide +kernel
theorem dX9_takeAll_0 : decode cX9_takeAll 0 = .ok (.aload_n 0, 1) := by decide +kernel
theorem dX9_takeAll_1 : decode cX9_takeAll 1 = .ok (.aload_n 1, 1) := by decide +kernel
theorem dX9_takeAll_2 : decode cX9_takeAll 2 = .ok (.iload_n 2, 1) := by decide +kernel
theorem dX9_takeAll_3 : decode cX9_takeAll 3 = .ok (.invokevirtual 241, 3) := by decide +kernel
theorem dX9_takeAll_6 : decode cX9_takeAll 6 = .ok (.aload_n 0, 1) := by decide +kernel
theorem dX9_takeAll_7 : decode cX9_takeAll 7 = .ok (.aload_n 1, 1) := by decide +kernel
theorem dX9_takeAll_8 : decode cX9_takeAll 8 = .ok (.iload_n 2, 1) := by decide +kernel
theorem dX9_takeAll_9 : decode cX9_takeAll 9 = .ok (.bipush 22, 2) := by decide +kernel
theorem dX9_takeAll_11 : decode cX9_takeAll 11 = .ok (.iadd, 1) := by decide +kernel
theorem dX9_takeAll_12 : decode cX9_takeAll 12 = .ok (.iaload, 1) := by decide +kernel
theorem dX9_takeAll_13 : decode cX9_takeAll 13 = .ok (.putfield 69, 3) := by decide +kernel
theorem dX9_takeAll_16 : decode cX9_takeAll 16 = .ok (.aload_n 0, 1) := by decide +kernel
theorem dX9_takeAll_17 : decode cX9_takeAll 17 = .ok (.aload_n 1, 1) := by decide +kernel
theorem dX9_takeAll_18 : decode cX9_takeAll 18 = .ok (.iload_n 2, 1) := by decide +kernel
theorem dX9_takeAll_19 : decode cX9_takeAll 19 = .ok (.bipush 23, 2) := by decide +kernel
theorem dX9_takeAll_21 : decode cX9_takeAll 21 = .ok (.iadd, 1) := by decide +kernel
theorem dX9_takeAll_22 : decode cX9_takeAll 22 = .ok (.iaload, 1) := by decide +kernel
theorem dX9_takeAll_23 : decode cX9_takeAll 23 = .ok (.putfield 79, 3) := by decide +kernel
theorem dX9_takeAll_26 : decode cX9_takeAll 26 = .ok (.aload_n 0, 1) := by decide +kernel
theorem dX9_takeAll_27 : decode cX9_takeAll 27 = .ok (.aload_n 1, 1) := by decide +kernel
theorem dX9_takeAll_28 : decode cX9_takeAll 28 = .ok (.iload_n 2, 1) := by decide +kernel
theorem dX9_takeAll_29 : decode cX9_takeAll 29 = .ok (.bipush 24, 2) := by decide +kernel
theorem dX9_takeAll_31 : decode cX9_takeAll 31 = .ok (.iadd, 1) := by decide +kernel
theorem dX9_takeAll_32 : decode cX9_takeAll 32 = .ok (.iaload, 1) := by decide +kernel
theorem dX9_takeAll_33 : decode cX9_takeAll 33 = .ok (.putfield 82, 3) := by decide +kernel
theorem dX9_takeAll_36 : decode cX9_takeAll 36 = .ok (.aload_n 0, 1) := by decide +kernel
theorem dX9_takeAll_37 : decode cX9_takeAll 37 = .ok (.aload_n 1, 1) := by decide +kernel
theorem dX9_takeAll_38 : decode cX9_takeAll 38 = .ok (.iload_n 2, 1) := by decide +kernel
theorem dX9_takeAll_39 : decode cX9_takeAll 39 = .ok (.bipush 25, 2) := by decide +kernel
theorem dX9_takeAll_41 : decode cX9_takeAll 41 = .ok (.iadd, 1) := by decide +kernel
theorem dX9_takeAll_42 : decode cX9_takeAll 42 = .ok (.iaload, 1) := by decide +kernel
theorem dX9_takeAll_43 : decode cX9_takeAll 43 = .ok (.putfield 85, 3) := by decide +kernel
theorem dX9_takeAll_46 : decode cX9_takeAll 46 = .ok (.aload_n 0, 1) := by decide +kernel
theorem dX9_takeAll_47 : decode cX9_takeAll 47 = .ok (.aload_n 1, 1) := by decide +kernel
theorem dX9_takeAll_48 : decode cX9_takeAll 48 = .ok (.iload_n 2, 1) := by decide +kernel
theorem dX9_takeAll_49 : decode cX9_takeAll 49 = .ok (.bipush 26, 2) := by decide +kernel
theorem dX9_takeAll_51 : decode cX9_takeAll 51 = .ok (.iadd, 1) := by decide +kernel
theorem dX9_takeAll_52 : decode cX9_takeAll 52 = .ok (.iaload, 1) := by decide +kernel
theorem dX9_takeAll_53 : decode cX9_takeAll 53 = .ok (.putfield 88, 3) := by decide +kernel
theorem dX9_takeAll_56 : decode cX9_takeAll 56 = .ok (.iconst 0, 1) := by decide +kernel
theorem dX9_takeAll_57 : decode cX9_takeAll 57 = .ok (.istore_n 3, 1) := by decide +kernel
theorem dX9_takeAll_58 : decode cX9_takeAll 58 = .ok (.iload_n 3, 1) := by decide +kernel
theorem dX9_takeAll_59 : decode cX9_takeAll 59 = .ok (.bipush 6, 2) := by decide +kernel
theorem dX9_takeAll_61 : decode cX9_takeAll 61 = .ok (.if_icmp .ge 37, 3) := by decide +kernel
theorem dX9_takeAll_64 : decode cX9_takeAll 64 = .ok (.aload_n 0, 1) := by decide +kernel
theorem dX9_takeAll_65 : decode cX9_takeAll 65 = .ok (.getfield 13, 3) := by decide +kernel
theorem dX9_takeAll_68 : decode cX9_takeAll 68 = .ok (.iload_n 3, 1) := by decide +kernel
theorem dX9_takeAll_69 : decode cX9_takeAll 69 = .ok (.aload_n 1, 1) := by decide +kernel
theorem dX9_takeAll_70 : decode cX9_takeAll 70 = .ok (.iload_n 2, 1) := by decide +kernel
theorem dX9_takeAll_71 : decode cX9_takeAll 71 = .ok (.bipush 27, 2) := by decide +kernel
theorem dX9_takeAll_73 : decode cX9_takeAll 73 = .ok (.iadd, 1) := by decide +kernel
theorem dX9_takeAll_74 : decode cX9_takeAll 74 = .ok (.iload_n 3, 1) := by decide +kernel
theorem dX9_takeAll_75 : decode cX9_takeAll 75 = .ok (.iadd, 1) := by decide +kernel
theorem dX9_takeAll_76 : decode cX9_takeAll 76 = .ok (.iaload, 1) := by decide +kernel
theorem dX9_takeAll_77 : decode cX9_takeAll 77 = .ok (.iastore, 1) := by decide +kernel
theorem dX9_takeAll_78 : decode cX9_takeAll 78 = .ok (.aload_n 0, 1) := by decide +kernel
theorem dX9_takeAll_79 : decode cX9_takeAll 79 = .ok (.getfield 16, 3) := by decide +kernel
theorem dX9_takeAll_82 : decode cX9_takeAll 82 = .ok (.iload_n 3, 1) := by decide +kernel
theorem dX9_takeAll_83 : decode cX9_takeAll 83 = .ok (.aload_n 1, 1) := by decide +kernel
theorem dX9_takeAll_84 : decode cX9_takeAll 84 = .ok (.iload_n 2, 1) := by decide +kernel
theorem dX9_takeAll_85 : decode cX9_takeAll 85 = .ok (.bipush 33, 2) := by decide +kernel
theorem dX9_takeAll_87 : decode cX9_takeAll 87 = .ok (.iadd, 1) := by decide +kernel
theorem dX9_takeAll_88 : decode cX9_takeAll 88 = .ok (.iload_n 3, 1) := by decide +kernel
theorem dX9_takeAll_89 : decode cX9_takeAll 89 = .ok (.iadd, 1) := by decide +kernel
theorem dX9_takeAll_90 : decode cX9_takeAll 90 = .ok (.iaload, 1) := by decide +kernel
theorem dX9_takeAll_91 : decode cX9_takeAll 91 = .ok (.iastore, 1) := by decide +kernel
theorem dX9_takeAll_92 : decode cX9_takeAll 92 = .ok (.iinc 3 1, 3) := by decide +kernel
theorem dX9_takeAll_95 : decode cX9_takeAll 95 = .ok (.goto (-37), 3) := by decide +kernel
theorem dX9_takeAll_98 : decode cX9_takeAll 98 = .ok (.iconst 0, 1) := by decide +kernel
theorem dX9_takeAll_99 : decode cX9_takeAll 99 = .ok (.istore_n 3, 1) := by decide +kernel
theorem dX9_takeAll_100 : decode cX9_takeAll 100 = .ok (.iload_n 3, 1) := by decide +kernel
theorem dX9_takeAll_101 : decode cX9_takeAll 101 = .ok (.bipush 18, 2) := by decide +kernel
theorem dX9_takeAll_103 : decode cX9_takeAll 103 = .ok (.if_icmp .ge 23, 3) := by decide +kernel
theorem dX9_takeAll_106 : decode cX9_takeAll 106 = .ok (.aload_n 0, 1) := by decide +kernel
theorem dX9_takeAll_107 : decode cX9_takeAll 107 = .ok (.getfield 28, 3) := by decide +kernel
theorem dX9_takeAll_110 : decode cX9_takeAll 110 = .ok (.iload_n 3, 1) := by decide +kernel
theorem dX9_takeAll_111 : decode cX9_takeAll 111 = .ok (.aload_n 1, 1) := by decide +kernel
theorem dX9_takeAll_112 : decode cX9_takeAll 112 = .ok (.iload_n 2, 1) := by decide +kernel
theorem dX9_takeAll_113 : decode cX9_takeAll 113 = .ok (.bipush 39, 2) := by decide +kernel
theorem dX9_takeAll_115 : decode cX9_takeAll 115 = .ok (.iadd, 1) := by decide +kernel
theorem dX9_takeAll_116 : decode cX9_takeAll 116 = .ok (.iload_n 3, 1) := by decide +kernel
theorem dX9_takeAll_117 : decode cX9_takeAll 117 = .ok (.iadd, 1) := by decide +kernel
theorem dX9_takeAll_118 : decode cX9_takeAll 118 = .ok (.iaload, 1) := by decide +kernel
theorem dX9_takeAll_119 : decode cX9_takeAll 119 = .ok (.iastore, 1) := by decide +kernel
theorem dX9_takeAll_120 : decode cX9_takeAll 120 = .ok (.iinc 3 1, 3) := by decide +kernel
theorem dX9_takeAll_123 : decode cX9_takeAll 123 = .ok (.goto (-23), 3) := by decide +kernel
theorem dX9_takeAll_126 : decode cX9_takeAll 126 = .ok (.iconst 0, 1) := by decide +kernel
theorem dX9_takeAll_127 : decode cX9_takeAll 127 = .ok (.istore_n 3, 1) := by decide +kernel
theorem dX9_takeAll_128 : decode cX9_takeAll 128 = .ok (.iload_n 3, 1) := by decide +kernel
theorem dX9_takeAll_129 : decode cX9_takeAll 129 = .ok (.bipush 24, 2) := by decide +kernel
theorem dX9_takeAll_131 : decode cX9_takeAll 131 = .ok (.if_icmp .ge 37, 3) := by decide +kernel
theorem dX9_takeAll_134 : decode cX9_takeAll 134 = .ok (.aload_n 0, 1) := by decide +kernel
theorem dX9_takeAll_135 : decode cX9_takeAll 135 = .ok (.getfield 31, 3) := by decide +kernel
theorem dX9_takeAll_138 : decode cX9_takeAll 138 = .ok (.iload_n 3, 1) := by decide +kernel
theorem dX9_takeAll_139 : decode cX9_takeAll 139 = .ok (.aload_n 1, 1) := by decide +kernel
theorem dX9_takeAll_140 : decode cX9_takeAll 140 = .ok (.iload_n 2, 1) := by decide +kernel
theorem dX9_takeAll_141 : decode cX9_takeAll 141 = .ok (.bipush 57, 2) := by decide +kernel
theorem dX9_takeAll_143 : decode cX9_takeAll 143 = .ok (.iadd, 1) := by decide +kernel
theorem dX9_takeAll_144 : decode cX9_takeAll 144 = .ok (.iload_n 3, 1) := by decide +kernel
theorem dX9_takeAll_145 : decode cX9_takeAll 145 = .ok (.iadd, 1) := by decide +kernel
theorem dX9_takeAll_146 : decode cX9_takeAll 146 = .ok (.iaload, 1) := by decide +kernel
theorem dX9_takeAll_147 : decode cX9_takeAll 147 = .ok (.iastore, 1) := by decide +kernel
theorem dX9_takeAll_148 : decode cX9_takeAll 148 = .ok (.aload_n 0, 1) := by decide +kernel
theorem dX9_takeAll_149 : decode cX9_takeAll 149 = .ok (.getfield 34, 3) := by decide +kernel
theorem dX9_takeAll_152 : decode cX9_takeAll 152 = .ok (.iload_n 3, 1) := by decide +kernel
theorem dX9_takeAll_153 : decode cX9_takeAll 153 = .ok (.aload_n 1, 1) := by decide +kernel
theorem dX9_takeAll_154 : decode cX9_takeAll 154 = .ok (.iload_n 2, 1) := by decide +kernel
theorem dX9_takeAll_155 : decode cX9_takeAll 155 = .ok (.bipush 81, 2) := by decide +kernel
theorem dX9_takeAll_157 : decode cX9_takeAll 157 = .ok (.iadd, 1) := by decide +kernel
theorem dX9_takeAll_158 : decode cX9_takeAll 158 = .ok (.iload_n 3, 1) := by decide +kernel
theorem dX9_takeAll_159 : decode cX9_takeAll 159 = .ok (.iadd, 1) := by decide +kernel
theorem dX9_takeAll_160 : decode cX9_takeAll 160 = .ok (.iaload, 1) := by decide +kernel
theorem dX9_takeAll_161 : decode cX9_takeAll 161 = .ok (.iastore, 1) := by decide +kernel
theorem dX9_takeAll_162 : decode cX9_takeAll 162 = .ok (.iinc 3 1, 3) := by decide +kernel
theorem dX9_takeAll_165 : decode cX9_takeAll 165 = .ok (.goto (-37), 3) := by decide +kernel
theorem dX9_takeAll_168 : decode cX9_takeAll 168 = .ok (.iconst 0, 1) := by decide +kernel
theorem dX9_takeAll_169 : decode cX9_takeAll 169 = .ok (.istore_n 3, 1) := by decide +kernel
theorem dX9_takeAll_170 : decode cX9_takeAll 170 = .ok (.iload_n 3, 1) := by decide +kernel
theorem dX9_takeAll_171 : decode cX9_takeAll 171 = .ok (.sipush 176, 3) := by decide +kernel
theorem dX9_takeAll_174 : decode cX9_takeAll 174 = .ok (.if_icmp .ge 23, 3) := by decide +kernel
theorem dX9_takeAll_177 : decode cX9_takeAll 177 = .ok (.aload_n 0, 1) := by decide +kernel
theorem dX9_takeAll_178 : decode cX9_takeAll 178 = .ok (.getfield 43, 3) := by decide +kernel
theorem dX9_takeAll_181 : decode cX9_takeAll 181 = .ok (.iload_n 3, 1) := by decide +kernel
theorem dX9_takeAll_182 : decode cX9_takeAll 182 = .ok (.aload_n 1, 1) := by decide +kernel
theorem dX9_takeAll_183 : decode cX9_takeAll 183 = .ok (.iload_n 2, 1) := by decide +kernel
theorem dX9_takeAll_184 : decode cX9_takeAll 184 = .ok (.bipush 105, 2) := by decide +kernel
theorem dX9_takeAll_186 : decode cX9_takeAll 186 = .ok (.iadd, 1) := by decide +kernel
theorem dX9_takeAll_187 : decode cX9_takeAll 187 = .ok (.iload_n 3, 1) := by decide +kernel
theorem dX9_takeAll_188 : decode cX9_takeAll 188 = .ok (.iadd, 1) := by decide +kernel
theorem dX9_takeAll_189 : decode cX9_takeAll 189 = .ok (.iaload, 1) := by decide +kernel
theorem dX9_takeAll_190 : decode cX9_takeAll 190 = .ok (.iastore, 1) := by decide +kernel
theorem dX9_takeAll_191 : decode cX9_takeAll 191 = .ok (.iinc 3 1, 3) := by decide +kernel
theorem dX9_takeAll_194 : decode cX9_takeAll 194 = .ok (.goto (-24), 3) := by decide +kernel
theorem dX9_takeAll_197 : decode cX9_takeAll 197 = .ok (.return_, 1) := by decide +kernel
theorem dX9_image_0 : decode cX9_image 0 = .ok (.iload_n 1, 1) := by decide +kernel
theorem dX9_image_1 : decode cX9_image 1 = .ok (.iconst 0, 1) := by decide +kernel
theorem dX9_image_2 : decode cX9_image 2 = .ok (.iconst 1, 1) := by decide +kernel
theorem dX9_image_3 : decode cX9_image 3 = .ok (.invokestatic 91, 3) := by decide +kernel
theorem dX9_image_6 : decode cX9_image 6 = .ok (.ifCond .ne 8, 3) := by decide +kernel
theorem dX9_image_9 : decode cX9_image 9 = .ok (.aload_n 0, 1) := by decide +kernel
theorem dX9_image_10 : decode cX9_image 10 = .ok (.invokevirtual 95, 3) := by decide +kernel
theorem dX9_image_13 : decode cX9_image 13 = .ok (.ireturn, 1) := by decide +kernel
theorem dX9_image_14 : decode cX9_image 14 = .ok (.aload_n 0, 1) := by decide +kernel
theorem dX9_image_15 : decode cX9_image 15 = .ok (.getfield 63, 3) := by decide +kernel
theorem dX9_image_18 : decode cX9_image 18 = .ok (.iload_n 1, 1) := by decide +kernel
theorem dX9_image_19 : decode cX9_image 19 = .ok (.iconst 1, 1) := by decide +kernel
theorem dX9_image_20 : decode cX9_image 20 = .ok (.iastore, 1) := by decide +kernel
theorem dX9_image_21 : decode cX9_image 21 = .ok (.aload_n 0, 1) := by decide +kernel
theorem dX9_image_22 : decode cX9_image 22 = .ok (.aload_n 0, 1) := by decide +kernel
theorem dX9_image_23 : decode cX9_image 23 = .ok (.getfield 60, 3) := by decide +kernel
theorem dX9_image_26 : decode cX9_image 26 = .ok (.sipush 300, 3) := by decide +kernel
theorem dX9_image_29 : decode cX9_image 29 = .ok (.iload_n 1, 1) := by decide +kernel
theorem dX9_image_30 : decode cX9_image 30 = .ok (.imul, 1) := by decide +kernel
theorem dX9_image_31 : decode cX9_image 31 = .ok (.invokevirtual 169, 3) := by decide +kernel
theorem dX9_image_34 : decode cX9_image 34 = .ok (.iconst 1, 1) := by decide +kernel
theorem dX9_image_35 : decode cX9_image 35 = .ok (.ireturn, 1) := by decide +kernel
theorem dX9_from_0 : decode cX9_from 0 = .ok (.iload_n 1, 1) := by decide +kernel
theorem dX9_from_1 : decode cX9_from 1 = .ok (.iconst 0, 1) := by decide +kernel
theorem dX9_from_2 : decode cX9_from 2 = .ok (.iconst 1, 1) := by decide +kernel
theorem dX9_from_3 : decode cX9_from 3 = .ok (.invokestatic 91, 3) := by decide +kernel
theorem dX9_from_6 : decode cX9_from 6 = .ok (.ifCond .ne 8, 3) := by decide +kernel
theorem dX9_from_9 : decode cX9_from 9 = .ok (.aload_n 0, 1) := by decide +kernel
theorem dX9_from_10 : decode cX9_from 10 = .ok (.invokevirtual 95, 3) := by decide +kernel
theorem dX9_from_13 : decode cX9_from 13 = .ok (.ireturn, 1) := by decide +kernel
theorem dX9_from_14 : decode cX9_from 14 = .ok (.aload_n 0, 1) := by decide +kernel
theorem dX9_from_15 : decode cX9_from 15 = .ok (.getfield 63, 3) := by decide +kernel
theorem dX9_from_18 : decode cX9_from 18 = .ok (.iload_n 1, 1) := by decide +kernel
theorem dX9_from_19 : decode cX9_from 19 = .ok (.iaload, 1) := by decide +kernel
theorem dX9_from_20 : decode cX9_from 20 = .ok (.ifCond .ne 8, 3) := by decide +kernel
theorem dX9_from_23 : decode cX9_from 23 = .ok (.aload_n 0, 1) := by decide +kernel
theorem dX9_from_24 : decode cX9_from 24 = .ok (.invokevirtual 222, 3) := by decide +kernel
theorem dX9_from_27 : decode cX9_from 27 = .ok (.ireturn, 1) := by decide +kernel
theorem dX9_from_28 : decode cX9_from 28 = .ok (.aload_n 0, 1) := by decide +kernel
theorem dX9_from_29 : decode cX9_from 29 = .ok (.aload_n 0, 1) := by decide +kernel
theorem dX9_from_30 : decode cX9_from 30 = .ok (.getfield 60, 3) := by decide +kernel
theorem dX9_from_33 : decode cX9_from 33 = .ok (.sipush 300, 3) := by decide +kernel
theorem dX9_from_36 : decode cX9_from 36 = .ok (.iload_n 1, 1) := by decide +kernel
theorem dX9_from_37 : decode cX9_from 37 = .ok (.imul, 1) := by decide +kernel
theorem dX9_from_38 : decode cX9_from 38 = .ok (.invokevirtual 176, 3) := by decide +kernel
theorem dX9_from_41 : decode cX9_from 41 = .ok (.iconst 1, 1) := by decide +kernel
theorem dX9_from_42 : decode cX9_from 42 = .ok (.ireturn, 1) := by decide +kernel
theorem dX9_status_0 : decode cX9_status 0 = .ok (.iload_n 1, 1) := by decide +kernel
theorem dX9_status_1 : decode cX9_status 1 = .ok (.iconst 0, 1) := by decide +kernel
theorem dX9_status_2 : decode cX9_status 2 = .ok (.iconst 2, 1) := by decide +kernel
theorem dX9_status_3 : decode cX9_status 3 = .ok (.invokestatic 91, 3) := by decide +kernel
theorem dX9_status_6 : decode cX9_status 6 = .ok (.ifCond .ne 15, 3) := by decide +kernel
theorem dX9_status_9 : decode cX9_status 9 = .ok (.aload_n 0, 1) := by decide +kernel
theorem dX9_status_10 : decode cX9_status 10 = .ok (.getfield 1, 3) := by decide +kernel
theorem dX9_status_13 : decode cX9_status 13 = .ok (.iconst 0, 1) := by decide +kernel
theorem dX9_status_14 : decode cX9_status 14 = .ok (.dup2, 1) := by decide +kernel
theorem dX9_status_15 : decode cX9_status 15 = .ok (.iaload, 1) := by decide +kernel
theorem dX9_status_16 : decode cX9_status 16 = .ok (.iconst 1, 1) := by decide +kernel
theorem dX9_status_17 : decode cX9_status 17 = .ok (.iadd, 1) := by decide +kernel
theorem dX9_status_18 : decode cX9_status 18 = .ok (.iastore, 1) := by decide +kernel
theorem dX9_status_19 : decode cX9_status 19 = .ok (.iconst (-1), 1) := by decide +kernel
theorem dX9_status_20 : decode cX9_status 20 = .ok (.ireturn, 1) := by decide +kernel
theorem dX9_status_21 : decode cX9_status 21 = .ok (.aload_n 0, 1) := by decide +kernel
theorem dX9_status_22 : decode cX9_status 22 = .ok (.getfield 1, 3) := by decide +kernel
theorem dX9_status_25 : decode cX9_status 25 = .ok (.iload_n 1, 1) := by decide +kernel
theorem dX9_status_26 : decode cX9_status 26 = .ok (.iaload, 1) := by decide +kernel
theorem dX9_status_27 : decode cX9_status 27 = .ok (.ireturn, 1) := by decide +kernel
theorem dX9_topMany_0 : decode cX9_topMany 0 = .ok (.iconst 0, 1) := by decide +kernel
theorem dX9_topMany_1 : decode cX9_topMany 1 = .ok (.istore_n 1, 1) := by decide +kernel
theorem dX9_topMany_2 : decode cX9_topMany 2 = .ok (.iconst 0, 1) := by decide +kernel
theorem dX9_topMany_3 : decode cX9_topMany 3 = .ok (.istore_n 2, 1) := by decide +kernel
theorem dX9_topMany_4 : decode cX9_topMany 4 = .ok (.iload_n 2, 1) := by decide +kernel
theorem dX9_topMany_5 : decode cX9_topMany 5 = .ok (.aload_n 0, 1) := by decide +kernel
theorem dX9_topMany_6 : decode cX9_topMany 6 = .ok (.getfield 69, 3) := by decide +kernel
theorem dX9_topMany_9 : decode cX9_topMany 9 = .ok (.if_icmp .ge 28, 3) := by decide +kernel
theorem dX9_topMany_12 : decode cX9_topMany 12 = .ok (.iload_n 1, 1) := by decide +kernel
theorem dX9_topMany_13 : decode cX9_topMany 13 = .ok (.aload_n 0, 1) := by decide +kernel
theorem dX9_topMany_14 : decode cX9_topMany 14 = .ok (.getfield 19, 3) := by decide +kernel
theorem dX9_topMany_17 : decode cX9_topMany 17 = .ok (.iload_n 2, 1) := by decide +kernel
theorem dX9_topMany_18 : decode cX9_topMany 18 = .ok (.iaload, 1) := by decide +kernel
theorem dX9_topMany_19 : decode cX9_topMany 19 = .ok (.bipush 8, 2) := by decide +kernel
theorem dX9_topMany_21 : decode cX9_topMany 21 = .ok (.if_icmp .ne 7, 3) := by decide +kernel
theorem dX9_topMany_24 : decode cX9_topMany 24 = .ok (.iconst 1, 1) := by decide +kernel
theorem dX9_topMany_25 : decode cX9_topMany 25 = .ok (.goto 4, 3) := by decide +kernel
theorem dX9_topMany_28 : decode cX9_topMany 28 = .ok (.iconst 0, 1) := by decide +kernel
theorem dX9_topMany_29 : decode cX9_topMany 29 = .ok (.iadd, 1) := by decide +kernel
theorem dX9_topMany_30 : decode cX9_topMany 30 = .ok (.istore_n 1, 1) := by decide +kernel
theorem dX9_topMany_31 : decode cX9_topMany 31 = .ok (.iinc 2 1, 3) := by decide +kernel
theorem dX9_topMany_34 : decode cX9_topMany 34 = .ok (.goto (-30), 3) := by decide +kernel
theorem dX9_topMany_37 : decode cX9_topMany 37 = .ok (.iload_n 1, 1) := by decide +kernel
theorem dX9_topMany_38 : decode cX9_topMany 38 = .ok (.ireturn, 1) := by decide +kernel
theorem dX9_countOf_0 : decode cX9_countOf 0 = .ok (.iload_n 1, 1) := by decide +kernel
theorem dX9_countOf_1 : decode cX9_countOf 1 = .ok (.tableswitch 99 0 8 #[51, 56, 61, 66, 74, 79, 84, 89, 94], 51) := by decide +kernel
theorem dX9_countOf_52 : decode cX9_countOf 52 = .ok (.aload_n 0, 1) := by decide +kernel
theorem dX9_countOf_53 : decode cX9_countOf 53 = .ok (.getfield 69, 3) := by decide +kernel
theorem dX9_countOf_56 : decode cX9_countOf 56 = .ok (.ireturn, 1) := by decide +kernel
theorem dX9_countOf_57 : decode cX9_countOf 57 = .ok (.aload_n 0, 1) := by decide +kernel
theorem dX9_countOf_58 : decode cX9_countOf 58 = .ok (.getfield 73, 3) := by decide +kernel
theorem dX9_countOf_61 : decode cX9_countOf 61 = .ok (.ireturn, 1) := by decide +kernel
theorem dX9_countOf_62 : decode cX9_countOf 62 = .ok (.aload_n 0, 1) := by decide +kernel
theorem dX9_countOf_63 : decode cX9_countOf 63 = .ok (.invokevirtual 235, 3) := by decide +kernel
theorem dX9_countOf_66 : decode cX9_countOf 66 = .ok (.ireturn, 1) := by decide +kernel
theorem dX9_countOf_67 : decode cX9_countOf 67 = .ok (.aload_n 0, 1) := by decide +kernel
theorem dX9_countOf_68 : decode cX9_countOf 68 = .ok (.getfield 76, 3) := by decide +kernel
theorem dX9_countOf_71 : decode cX9_countOf 71 = .ok (.invokestatic 201, 3) := by decide +kernel
theorem dX9_countOf_74 : decode cX9_countOf 74 = .ok (.ireturn, 1) := by decide +kernel
theorem dX9_countOf_75 : decode cX9_countOf 75 = .ok (.aload_n 0, 1) := by decide +kernel
theorem dX9_countOf_76 : decode cX9_countOf 76 = .ok (.invokevirtual 298, 3) := by decide +kernel
theorem dX9_countOf_79 : decode cX9_countOf 79 = .ok (.ireturn, 1) := by decide +kernel
theorem dX9_countOf_80 : decode cX9_countOf 80 = .ok (.aload_n 0, 1) := by decide +kernel
theorem dX9_countOf_81 : decode cX9_countOf 81 = .ok (.getfield 79, 3) := by decide +kernel
theorem dX9_countOf_84 : decode cX9_countOf 84 = .ok (.ireturn, 1) := by decide +kernel
theorem dX9_countOf_85 : decode cX9_countOf 85 = .ok (.aload_n 0, 1) := by decide +kernel
theorem dX9_countOf_86 : decode cX9_countOf 86 = .ok (.getfield 82, 3) := by decide +kernel
theorem dX9_countOf_89 : decode cX9_countOf 89 = .ok (.ireturn, 1) := by decide +kernel
theorem dX9_countOf_90 : decode cX9_countOf 90 = .ok (.aload_n 0, 1) := by decide +kernel
theorem dX9_countOf_91 : decode cX9_countOf 91 = .ok (.getfield 85, 3) := by decide +kernel
theorem dX9_countOf_94 : decode cX9_countOf 94 = .ok (.ireturn, 1) := by decide +kernel
theorem dX9_countOf_95 : decode cX9_countOf 95 = .ok (.aload_n 0, 1) := by decide +kernel
theorem dX9_countOf_96 : decode cX9_countOf 96 = .ok (.getfield 88, 3) := by decide +kernel
theorem dX9_countOf_99 : decode cX9_countOf 99 = .ok (.ireturn, 1) := by decide +kernel
theorem dX9_countOf_100 : decode cX9_countOf 100 = .ok (.aload_n 0, 1) := by decide +kernel
theorem dX9_countOf_101 : decode cX9_countOf 101 = .ok (.getfield 106, 3) := by decide +kernel
theorem dX9_countOf_104 : decode cX9_countOf 104 = .ok (.ireturn, 1) := by decide +kernel
theorem dX9_count_0 : decode cX9_count 0 = .ok (.iload_n 1, 1) := by decide +kernel
theorem dX9_count_1 : decode cX9_count 1 = .ok (.iconst 0, 1) := by decide +kernel
theorem dX9_count_2 : decode cX9_count 2 = .ok (.bipush 9, 2) := by decide +kernel
theorem dX9_count_4 : decode cX9_count 4 = .ok (.invokestatic 91, 3) := by decide +kernel
theorem dX9_count_7 : decode cX9_count 7 = .ok (.ifCond .eq 11, 3) := by decide +kernel
theorem dX9_count_10 : decode cX9_count 10 = .ok (.aload_n 0, 1) := by decide +kernel
theorem dX9_count_11 : decode cX9_count 11 = .ok (.iload_n 1, 1) := by decide +kernel
theorem dX9_count_12 : decode cX9_count 12 = .ok (.invokevirtual 301, 3) := by decide +kernel
theorem dX9_count_15 : decode cX9_count 15 = .ok (.goto 7, 3) := by decide +kernel
theorem dX9_count_18 : decode cX9_count 18 = .ok (.aload_n 0, 1) := by decide +kernel
theorem dX9_count_19 : decode cX9_count 19 = .ok (.invokevirtual 95, 3) := by decide +kernel
theorem dX9_count_22 : decode cX9_count 22 = .ok (.ireturn, 1) := by decide +kernel
theorem dX9_mix_0 : decode cX9_mix 0 = .ok (.aload_n 0, 1) := by decide +kernel
theorem dX9_mix_1 : decode cX9_mix 1 = .ok (.ldc2_w 304, 3) := by decide +kernel
theorem dX9_mix_4 : decode cX9_mix 4 = .ok (.aload_n 0, 1) := by decide +kernel
theorem dX9_mix_5 : decode cX9_mix 5 = .ok (.getfield 306, 3) := by decide +kernel
theorem dX9_mix_8 : decode cX9_mix 8 = .ok (.lmul, 1) := by decide +kernel
theorem dX9_mix_9 : decode cX9_mix 9 = .ok (.lload_n 1, 1) := by decide +kernel
theorem dX9_mix_10 : decode cX9_mix 10 = .ok (.ladd, 1) := by decide +kernel
theorem dX9_mix_11 : decode cX9_mix 11 = .ok (.putfield 306, 3) := by decide +kernel
theorem dX9_mix_14 : decode cX9_mix 14 = .ok (.return_, 1) := by decide +kernel
theorem dX9_digest_0 : decode cX9_digest 0 = .ok (.aload_n 0, 1) := by decide +kernel
theorem dX9_digest_1 : decode cX9_digest 1 = .ok (.ldc2_w 309, 3) := by decide +kernel
theorem dX9_digest_4 : decode cX9_digest 4 = .ok (.putfield 306, 3) := by decide +kernel
theorem dX9_digest_7 : decode cX9_digest 7 = .ok (.iconst 0, 1) := by decide +kernel
theorem dX9_digest_8 : decode cX9_digest 8 = .ok (.istore_n 1, 1) := by decide +kernel
theorem dX9_digest_9 : decode cX9_digest 9 = .ok (.iload_n 1, 1) := by decide +kernel
theorem dX9_digest_10 : decode cX9_digest 10 = .ok (.bipush 9, 2) := by decide +kernel
theorem dX9_digest_12 : decode cX9_digest 12 = .ok (.if_icmp .gt 19, 3) := by decide +kernel
theorem dX9_digest_15 : decode cX9_digest 15 = .ok (.aload_n 0, 1) := by decide +kernel
theorem dX9_digest_16 : decode cX9_digest 16 = .ok (.aload_n 0, 1) := by decide +kernel
theorem dX9_digest_17 : decode cX9_digest 17 = .ok (.iload_n 1, 1) := by decide +kernel
theorem dX9_digest_18 : decode cX9_digest 18 = .ok (.invokevirtual 301, 3) := by decide +kernel
theorem dX9_digest_21 : decode cX9_digest 21 = .ok (.i2l, 1) := by decide +kernel
theorem dX9_digest_22 : decode cX9_digest 22 = .ok (.invokevirtual 311, 3) := by decide +kernel
theorem dX9_digest_25 : decode cX9_digest 25 = .ok (.iinc 1 1, 3) := by decide +kernel
theorem dX9_digest_28 : decode cX9_digest 28 = .ok (.goto (-19), 3) := by decide +kernel
theorem dX9_digest_31 : decode cX9_digest 31 = .ok (.iconst 0, 1) := by decide +kernel
theorem dX9_digest_32 : decode cX9_digest 32 = .ok (.istore_n 1, 1) := by decide +kernel
theorem dX9_digest_33 : decode cX9_digest 33 = .ok (.iload_n 1, 1) := by decide +kernel
theorem dX9_digest_34 : decode cX9_digest 34 = .ok (.bipush 8, 2) := by decide +kernel
theorem dX9_digest_36 : decode cX9_digest 36 = .ok (.if_icmp .ge 20, 3) := by decide +kernel
theorem dX9_digest_39 : decode cX9_digest 39 = .ok (.aload_n 0, 1) := by decide +kernel
theorem dX9_digest_40 : decode cX9_digest 40 = .ok (.aload_n 0, 1) := by decide +kernel
theorem dX9_digest_41 : decode cX9_digest 41 = .ok (.getfield 25, 3) := by decide +kernel
theorem dX9_digest_44 : decode cX9_digest 44 = .ok (.iload_n 1, 1) := by decide +kernel
theorem dX9_digest_45 : decode cX9_digest 45 = .ok (.iaload, 1) := by decide +kernel
theorem dX9_digest_46 : decode cX9_digest 46 = .ok (.i2l, 1) := by decide +kernel
theorem dX9_digest_47 : decode cX9_digest 47 = .ok (.invokevirtual 311, 3) := by decide +kernel
theorem dX9_digest_50 : decode cX9_digest 50 = .ok (.iinc 1 1, 3) := by decide +kernel
theorem dX9_digest_53 : decode cX9_digest 53 = .ok (.goto (-20), 3) := by decide +kernel
theorem dX9_digest_56 : decode cX9_digest 56 = .ok (.aload_n 0, 1) := by decide +kernel
theorem dX9_digest_57 : decode cX9_digest 57 = .ok (.aload_n 0, 1) := by decide +kernel
theorem dX9_digest_58 : decode cX9_digest 58 = .ok (.getfield 76, 3) := by decide +kernel
theorem dX9_digest_61 : decode cX9_digest 61 = .ok (.i2l, 1) := by decide +kernel
theorem dX9_digest_62 : decode cX9_digest 62 = .ok (.invokevirtual 311, 3) := by decide +kernel
theorem dX9_digest_65 : decode cX9_digest 65 = .ok (.iconst 0, 1) := by decide +kernel
theorem dX9_digest_66 : decode cX9_digest 66 = .ok (.istore_n 1, 1) := by decide +kernel
theorem dX9_digest_67 : decode cX9_digest 67 = .ok (.iload_n 1, 1) := by decide +kernel
theorem dX9_digest_68 : decode cX9_digest 68 = .ok (.aload_n 0, 1) := by decide +kernel
theorem dX9_digest_69 : decode cX9_digest 69 = .ok (.getfield 69, 3) := by decide +kernel
theorem dX9_digest_72 : decode cX9_digest 72 = .ok (.if_icmp .ge 53, 3) := by decide +kernel
theorem dX9_digest_75 : decode cX9_digest 75 = .ok (.aload_n 0, 1) := by decide +kernel
theorem dX9_digest_76 : decode cX9_digest 76 = .ok (.aload_n 0, 1) := by decide +kernel
theorem dX9_digest_77 : decode cX9_digest 77 = .ok (.getfield 13, 3) := by decide +kernel
theorem dX9_digest_80 : decode cX9_digest 80 = .ok (.iload_n 1, 1) := by decide +kernel
theorem dX9_digest_81 : decode cX9_digest 81 = .ok (.iaload, 1) := by decide +kernel
theorem dX9_digest_82 : decode cX9_digest 82 = .ok (.i2l, 1) := by decide +kernel
theorem dX9_digest_83 : decode cX9_digest 83 = .ok (.invokevirtual 311, 3) := by decide +kernel
theorem dX9_digest_86 : decode cX9_digest 86 = .ok (.aload_n 0, 1) := by decide +kernel
theorem dX9_digest_87 : decode cX9_digest 87 = .ok (.aload_n 0, 1) := by decide +kernel
theorem dX9_digest_88 : decode cX9_digest 88 = .ok (.getfield 16, 3) := by decide +kernel
theorem dX9_digest_91 : decode cX9_digest 91 = .ok (.iload_n 1, 1) := by decide +kernel
theorem dX9_digest_92 : decode cX9_digest 92 = .ok (.iaload, 1) := by decide +kernel
theorem dX9_digest_93 : decode cX9_digest 93 = .ok (.i2l, 1) := by decide +kernel
theorem dX9_digest_94 : decode cX9_digest 94 = .ok (.invokevirtual 311, 3) := by decide +kernel
theorem dX9_digest_97 : decode cX9_digest 97 = .ok (.aload_n 0, 1) := by decide +kernel
theorem dX9_digest_98 : decode cX9_digest 98 = .ok (.aload_n 0, 1) := by decide +kernel
theorem dX9_digest_99 : decode cX9_digest 99 = .ok (.getfield 19, 3) := by decide +kernel
theorem dX9_digest_102 : decode cX9_digest 102 = .ok (.iload_n 1, 1) := by decide +kernel
theorem dX9_digest_103 : decode cX9_digest 103 = .ok (.iaload, 1) := by decide +kernel
theorem dX9_digest_104 : decode cX9_digest 104 = .ok (.i2l, 1) := by decide +kernel
theorem dX9_digest_105 : decode cX9_digest 105 = .ok (.invokevirtual 311, 3) := by decide +kernel
theorem dX9_digest_108 : decode cX9_digest 108 = .ok (.aload_n 0, 1) := by decide +kernel
theorem dX9_digest_109 : decode cX9_digest 109 = .ok (.aload_n 0, 1) := by decide +kernel
theorem dX9_digest_110 : decode cX9_digest 110 = .ok (.getfield 22, 3) := by decide +kernel
theorem dX9_digest_113 : decode cX9_digest 113 = .ok (.iload_n 1, 1) := by decide +kernel
theorem dX9_digest_114 : decode cX9_digest 114 = .ok (.iaload, 1) := by decide +kernel
theorem dX9_digest_115 : decode cX9_digest 115 = .ok (.i2l, 1) := by decide +kernel
theorem dX9_digest_116 : decode cX9_digest 116 = .ok (.invokevirtual 311, 3) := by decide +kernel
theorem dX9_digest_119 : decode cX9_digest 119 = .ok (.iinc 1 1, 3) := by decide +kernel
theorem dX9_digest_122 : decode cX9_digest 122 = .ok (.goto (-55), 3) := by decide +kernel
theorem dX9_digest_125 : decode cX9_digest 125 = .ok (.iconst 0, 1) := by decide +kernel
theorem dX9_digest_126 : decode cX9_digest 126 = .ok (.istore_n 1, 1) := by decide +kernel
theorem dX9_digest_127 : decode cX9_digest 127 = .ok (.iload_n 1, 1) := by decide +kernel
theorem dX9_digest_128 : decode cX9_digest 128 = .ok (.iconst 3, 1) := by decide +kernel
theorem dX9_digest_129 : decode cX9_digest 129 = .ok (.aload_n 0, 1) := by decide +kernel
theorem dX9_digest_130 : decode cX9_digest 130 = .ok (.getfield 79, 3) := by decide +kernel
theorem dX9_digest_133 : decode cX9_digest 133 = .ok (.imul, 1) := by decide +kernel
theorem dX9_digest_134 : decode cX9_digest 134 = .ok (.if_icmp .ge 20, 3) := by decide +kernel
theorem dX9_digest_137 : decode cX9_digest 137 = .ok (.aload_n 0, 1) := by decide +kernel
theorem dX9_digest_138 : decode cX9_digest 138 = .ok (.aload_n 0, 1) := by decide +kernel
theorem dX9_digest_139 : decode cX9_digest 139 = .ok (.getfield 28, 3) := by decide +kernel
theorem dX9_digest_142 : decode cX9_digest 142 = .ok (.iload_n 1, 1) := by decide +kernel
theorem dX9_digest_143 : decode cX9_digest 143 = .ok (.iaload, 1) := by decide +kernel
theorem dX9_digest_144 : decode cX9_digest 144 = .ok (.i2l, 1) := by decide +kernel
theorem dX9_digest_145 : decode cX9_digest 145 = .ok (.invokevirtual 311, 3) := by decide +kernel
theorem dX9_digest_148 : decode cX9_digest 148 = .ok (.iinc 1 1, 3) := by decide +kernel
theorem dX9_digest_151 : decode cX9_digest 151 = .ok (.goto (-24), 3) := by decide +kernel
theorem dX9_digest_154 : decode cX9_digest 154 = .ok (.iconst 0, 1) := by decide +kernel
theorem dX9_digest_155 : decode cX9_digest 155 = .ok (.istore_n 1, 1) := by decide +kernel
theorem dX9_digest_156 : decode cX9_digest 156 = .ok (.iload_n 1, 1) := by decide +kernel
theorem dX9_digest_157 : decode cX9_digest 157 = .ok (.iconst 4, 1) := by decide +kernel
theorem dX9_digest_158 : decode cX9_digest 158 = .ok (.aload_n 0, 1) := by decide +kernel
theorem dX9_digest_159 : decode cX9_digest 159 = .ok (.getfield 82, 3) := by decide +kernel
theorem dX9_digest_162 : decode cX9_digest 162 = .ok (.imul, 1) := by decide +kernel
theorem dX9_digest_163 : decode cX9_digest 163 = .ok (.if_icmp .ge 20, 3) := by decide +kernel
theorem dX9_digest_166 : decode cX9_digest 166 = .ok (.aload_n 0, 1) := by decide +kernel
theorem dX9_digest_167 : decode cX9_digest 167 = .ok (.aload_n 0, 1) := by decide +kernel
theorem dX9_digest_168 : decode cX9_digest 168 = .ok (.getfield 31, 3) := by decide +kernel
theorem dX9_digest_171 : decode cX9_digest 171 = .ok (.iload_n 1, 1) := by decide +kernel
theorem dX9_digest_172 : decode cX9_digest 172 = .ok (.iaload, 1) := by decide +kernel
theorem dX9_digest_173 : decode cX9_digest 173 = .ok (.i2l, 1) := by decide +kernel
theorem dX9_digest_174 : decode cX9_digest 174 = .ok (.invokevirtual 311, 3) := by decide +kernel
theorem dX9_digest_177 : decode cX9_digest 177 = .ok (.iinc 1 1, 3) := by decide +kernel
theorem dX9_digest_180 : decode cX9_digest 180 = .ok (.goto (-24), 3) := by decide +kernel
theorem dX9_digest_183 : decode cX9_digest 183 = .ok (.iconst 0, 1) := by decide +kernel
theorem dX9_digest_184 : decode cX9_digest 184 = .ok (.istore_n 1, 1) := by decide +kernel
theorem dX9_digest_185 : decode cX9_digest 185 = .ok (.iload_n 1, 1) := by decide +kernel
theorem dX9_digest_186 : decode cX9_digest 186 = .ok (.iconst 4, 1) := by decide +kernel
theorem dX9_digest_187 : decode cX9_digest 187 = .ok (.aload_n 0, 1) := by decide +kernel
theorem dX9_digest_188 : decode cX9_digest 188 = .ok (.getfield 85, 3) := by decide +kernel
theorem dX9_digest_191 : decode cX9_digest 191 = .ok (.imul, 1) := by decide +kernel
theorem dX9_digest_192 : decode cX9_digest 192 = .ok (.if_icmp .ge 20, 3) := by decide +kernel
theorem dX9_digest_195 : decode cX9_digest 195 = .ok (.aload_n 0, 1) := by decide +kernel
theorem dX9_digest_196 : decode cX9_digest 196 = .ok (.aload_n 0, 1) := by decide +kernel
theorem dX9_digest_197 : decode cX9_digest 197 = .ok (.getfield 34, 3) := by decide +kernel
theorem dX9_digest_200 : decode cX9_digest 200 = .ok (.iload_n 1, 1) := by decide +kernel
theorem dX9_digest_201 : decode cX9_digest 201 = .ok (.iaload, 1) := by decide +kernel
theorem dX9_digest_202 : decode cX9_digest 202 = .ok (.i2l, 1) := by decide +kernel
theorem dX9_digest_203 : decode cX9_digest 203 = .ok (.invokevirtual 311, 3) := by decide +kernel
theorem dX9_digest_206 : decode cX9_digest 206 = .ok (.iinc 1 1, 3) := by decide +kernel
theorem dX9_digest_209 : decode cX9_digest 209 = .ok (.goto (-24), 3) := by decide +kernel
theorem dX9_digest_212 : decode cX9_digest 212 = .ok (.aload_n 0, 1) := by decide +kernel
theorem dX9_digest_213 : decode cX9_digest 213 = .ok (.aload_n 0, 1) := by decide +kernel
theorem dX9_digest_214 : decode cX9_digest 214 = .ok (.getfield 274, 3) := by decide +kernel
theorem dX9_digest_217 : decode cX9_digest 217 = .ok (.invokevirtual 311, 3) := by decide +kernel
theorem dX9_digest_220 : decode cX9_digest 220 = .ok (.aload_n 0, 1) := by decide +kernel
theorem dX9_digest_221 : decode cX9_digest 221 = .ok (.aload_n 0, 1) := by decide +kernel
theorem dX9_digest_222 : decode cX9_digest 222 = .ok (.getfield 56, 3) := by decide +kernel
theorem dX9_digest_225 : decode cX9_digest 225 = .ok (.invokevirtual 311, 3) := by decide +kernel
theorem dX9_digest_228 : decode cX9_digest 228 = .ok (.aload_n 0, 1) := by decide +kernel
theorem dX9_digest_229 : decode cX9_digest 229 = .ok (.getfield 306, 3) := by decide +kernel
theorem dX9_digest_232 : decode cX9_digest 232 = .ok (.lreturn, 1) := by decide +kernel
