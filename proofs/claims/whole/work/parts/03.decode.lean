theorem dX0_init_0 : decode cX0_init 0 = .ok (.aload_n 0, 1) := by decide +kernel
theorem dX0_init_1 : decode cX0_init 1 = .ok (.invokespecial 3, 3) := by decide +kernel
theorem dX0_init_4 : decode cX0_init 4 = .ok (.aload_n 0, 1) := by decide +kernel
theorem dX0_init_5 : decode cX0_init 5 = .ok (.iconst 0, 1) := by decide +kernel
theorem dX0_init_6 : decode cX0_init 6 = .ok (.putfield 9, 3) := by decide +kernel
theorem dX0_init_9 : decode cX0_init 9 = .ok (.aload_n 0, 1) := by decide +kernel
theorem dX0_init_10 : decode cX0_init 10 = .ok (.bipush 6, 2) := by decide +kernel
theorem dX0_init_12 : decode cX0_init 12 = .ok (.newarray .int, 2) := by decide +kernel
theorem dX0_init_14 : decode cX0_init 14 = .ok (.putfield 15, 3) := by decide +kernel
theorem dX0_init_17 : decode cX0_init 17 = .ok (.aload_n 0, 1) := by decide +kernel
theorem dX0_init_18 : decode cX0_init 18 = .ok (.bipush 6, 2) := by decide +kernel
theorem dX0_init_20 : decode cX0_init 20 = .ok (.newarray .int, 2) := by decide +kernel
theorem dX0_init_22 : decode cX0_init 22 = .ok (.putfield 19, 3) := by decide +kernel
theorem dX0_init_25 : decode cX0_init 25 = .ok (.aload_n 0, 1) := by decide +kernel
theorem dX0_init_26 : decode cX0_init 26 = .ok (.new 22, 3) := by decide +kernel
theorem dX0_init_29 : decode cX0_init 29 = .ok (.dup, 1) := by decide +kernel
theorem dX0_init_30 : decode cX0_init 30 = .ok (.invokespecial 24, 3) := by decide +kernel
theorem dX0_init_33 : decode cX0_init 33 = .ok (.putfield 25, 3) := by decide +kernel
theorem dX0_init_36 : decode cX0_init 36 = .ok (.aload_n 0, 1) := by decide +kernel
theorem dX0_init_37 : decode cX0_init 37 = .ok (.bipush 8, 2) := by decide +kernel
theorem dX0_init_39 : decode cX0_init 39 = .ok (.anewarray 22, 3) := by decide +kernel
theorem dX0_init_42 : decode cX0_init 42 = .ok (.putfield 29, 3) := by decide +kernel
theorem dX0_init_45 : decode cX0_init 45 = .ok (.iconst 0, 1) := by decide +kernel
theorem dX0_init_46 : decode cX0_init 46 = .ok (.istore_n 1, 1) := by decide +kernel
theorem dX0_init_47 : decode cX0_init 47 = .ok (.iload_n 1, 1) := by decide +kernel
theorem dX0_init_48 : decode cX0_init 48 = .ok (.bipush 8, 2) := by decide +kernel
theorem dX0_init_50 : decode cX0_init 50 = .ok (.if_icmp .ge 22, 3) := by decide +kernel
theorem dX0_init_53 : decode cX0_init 53 = .ok (.aload_n 0, 1) := by decide +kernel
theorem dX0_init_54 : decode cX0_init 54 = .ok (.getfield 29, 3) := by decide +kernel
theorem dX0_init_57 : decode cX0_init 57 = .ok (.iload_n 1, 1) := by decide +kernel
theorem dX0_init_58 : decode cX0_init 58 = .ok (.new 22, 3) := by decide +kernel
theorem dX0_init_61 : decode cX0_init 61 = .ok (.dup, 1) := by decide +kernel
theorem dX0_init_62 : decode cX0_init 62 = .ok (.invokespecial 24, 3) := by decide +kernel
theorem dX0_init_65 : decode cX0_init 65 = .ok (.aastore, 1) := by decide +kernel
theorem dX0_init_66 : decode cX0_init 66 = .ok (.iinc 1 1, 3) := by decide +kernel
theorem dX0_init_69 : decode cX0_init 69 = .ok (.goto (-22), 3) := by decide +kernel
theorem dX0_init_72 : decode cX0_init 72 = .ok (.aload_n 0, 1) := by decide +kernel
theorem dX0_init_73 : decode cX0_init 73 = .ok (.iconst 0, 1) := by decide +kernel
theorem dX0_init_74 : decode cX0_init 74 = .ok (.putfield 33, 3) := by decide +kernel
theorem dX0_init_77 : decode cX0_init 77 = .ok (.aload_n 0, 1) := by decide +kernel
theorem dX0_init_78 : decode cX0_init 78 = .ok (.new 36, 3) := by decide +kernel
theorem dX0_init_81 : decode cX0_init 81 = .ok (.dup, 1) := by decide +kernel
theorem dX0_init_82 : decode cX0_init 82 = .ok (.invokespecial 38, 3) := by decide +kernel
theorem dX0_init_85 : decode cX0_init 85 = .ok (.putfield 39, 3) := by decide +kernel
theorem dX0_init_88 : decode cX0_init 88 = .ok (.aload_n 0, 1) := by decide +kernel
theorem dX0_init_89 : decode cX0_init 89 = .ok (.new 36, 3) := by decide +kernel
theorem dX0_init_92 : decode cX0_init 92 = .ok (.dup, 1) := by decide +kernel
theorem dX0_init_93 : decode cX0_init 93 = .ok (.invokespecial 38, 3) := by decide +kernel
theorem dX0_init_96 : decode cX0_init 96 = .ok (.putfield 43, 3) := by decide +kernel
theorem dX0_init_99 : decode cX0_init 99 = .ok (.aload_n 0, 1) := by decide +kernel
theorem dX0_init_100 : decode cX0_init 100 = .ok (.new 36, 3) := by decide +kernel
theorem dX0_init_103 : decode cX0_init 103 = .ok (.dup, 1) := by decide +kernel
theorem dX0_init_104 : decode cX0_init 104 = .ok (.invokespecial 38, 3) := by decide +kernel
theorem dX0_init_107 : decode cX0_init 107 = .ok (.putfield 46, 3) := by decide +kernel
theorem dX0_init_110 : decode cX0_init 110 = .ok (.aload_n 0, 1) := by decide +kernel
theorem dX0_init_111 : decode cX0_init 111 = .ok (.new 49, 3) := by decide +kernel
theorem dX0_init_114 : decode cX0_init 114 = .ok (.dup, 1) := by decide +kernel
theorem dX0_init_115 : decode cX0_init 115 = .ok (.invokespecial 51, 3) := by decide +kernel
theorem dX0_init_118 : decode cX0_init 118 = .ok (.putfield 52, 3) := by decide +kernel
theorem dX0_init_121 : decode cX0_init 121 = .ok (.aload_n 0, 1) := by decide +kernel
theorem dX0_init_122 : decode cX0_init 122 = .ok (.new 56, 3) := by decide +kernel
theorem dX0_init_125 : decode cX0_init 125 = .ok (.dup, 1) := by decide +kernel
theorem dX0_init_126 : decode cX0_init 126 = .ok (.invokespecial 58, 3) := by decide +kernel
theorem dX0_init_129 : decode cX0_init 129 = .ok (.putfield 59, 3) := by decide +kernel
theorem dX0_init_132 : decode cX0_init 132 = .ok (.return_, 1) := by decide +kernel
theorem dX0_empty_0 : decode cX0_empty 0 = .ok (.aload_n 0, 1) := by decide +kernel
theorem dX0_empty_1 : decode cX0_empty 1 = .ok (.iconst 0, 1) := by decide +kernel
theorem dX0_empty_2 : decode cX0_empty 2 = .ok (.putfield 9, 3) := by decide +kernel
theorem dX0_empty_5 : decode cX0_empty 5 = .ok (.aload_n 0, 1) := by decide +kernel
theorem dX0_empty_6 : decode cX0_empty 6 = .ok (.getfield 25, 3) := by decide +kernel
theorem dX0_empty_9 : decode cX0_empty 9 = .ok (.invokevirtual 63, 3) := by decide +kernel
theorem dX0_empty_12 : decode cX0_empty 12 = .ok (.aload_n 0, 1) := by decide +kernel
theorem dX0_empty_13 : decode cX0_empty 13 = .ok (.iconst 0, 1) := by decide +kernel
theorem dX0_empty_14 : decode cX0_empty 14 = .ok (.putfield 33, 3) := by decide +kernel
theorem dX0_empty_17 : decode cX0_empty 17 = .ok (.aload_n 0, 1) := by decide +kernel
theorem dX0_empty_18 : decode cX0_empty 18 = .ok (.getfield 39, 3) := by decide +kernel
theorem dX0_empty_21 : decode cX0_empty 21 = .ok (.invokevirtual 66, 3) := by decide +kernel
theorem dX0_empty_24 : decode cX0_empty 24 = .ok (.pop, 1) := by decide +kernel
theorem dX0_empty_25 : decode cX0_empty 25 = .ok (.aload_n 0, 1) := by decide +kernel
theorem dX0_empty_26 : decode cX0_empty 26 = .ok (.getfield 43, 3) := by decide +kernel
theorem dX0_empty_29 : decode cX0_empty 29 = .ok (.invokevirtual 66, 3) := by decide +kernel
theorem dX0_empty_32 : decode cX0_empty 32 = .ok (.pop, 1) := by decide +kernel
theorem dX0_empty_33 : decode cX0_empty 33 = .ok (.aload_n 0, 1) := by decide +kernel
theorem dX0_empty_34 : decode cX0_empty 34 = .ok (.getfield 46, 3) := by decide +kernel
theorem dX0_empty_37 : decode cX0_empty 37 = .ok (.invokevirtual 66, 3) := by decide +kernel
theorem dX0_empty_40 : decode cX0_empty 40 = .ok (.pop, 1) := by decide +kernel
theorem dX0_empty_41 : decode cX0_empty 41 = .ok (.return_, 1) := by decide +kernel
theorem dX0_copyPeople_0 : decode cX0_copyPeople 0 = .ok (.aload_n 0, 1) := by decide +kernel
theorem dX0_copyPeople_1 : decode cX0_copyPeople 1 = .ok (.aload_n 1, 1) := by decide +kernel
theorem dX0_copyPeople_2 : decode cX0_copyPeople 2 = .ok (.getfield 9, 3) := by decide +kernel
theorem dX0_copyPeople_5 : decode cX0_copyPeople 5 = .ok (.putfield 9, 3) := by decide +kernel
theorem dX0_copyPeople_8 : decode cX0_copyPeople 8 = .ok (.iconst 0, 1) := by decide +kernel
theorem dX0_copyPeople_9 : decode cX0_copyPeople 9 = .ok (.istore_n 2, 1) := by decide +kernel
theorem dX0_copyPeople_10 : decode cX0_copyPeople 10 = .ok (.iload_n 2, 1) := by decide +kernel
theorem dX0_copyPeople_11 : decode cX0_copyPeople 11 = .ok (.bipush 6, 2) := by decide +kernel
theorem dX0_copyPeople_13 : decode cX0_copyPeople 13 = .ok (.if_icmp .ge 33, 3) := by decide +kernel
theorem dX0_copyPeople_16 : decode cX0_copyPeople 16 = .ok (.aload_n 0, 1) := by decide +kernel
theorem dX0_copyPeople_17 : decode cX0_copyPeople 17 = .ok (.getfield 15, 3) := by decide +kernel
theorem dX0_copyPeople_20 : decode cX0_copyPeople 20 = .ok (.iload_n 2, 1) := by decide +kernel
theorem dX0_copyPeople_21 : decode cX0_copyPeople 21 = .ok (.aload_n 1, 1) := by decide +kernel
theorem dX0_copyPeople_22 : decode cX0_copyPeople 22 = .ok (.getfield 15, 3) := by decide +kernel
theorem dX0_copyPeople_25 : decode cX0_copyPeople 25 = .ok (.iload_n 2, 1) := by decide +kernel
theorem dX0_copyPeople_26 : decode cX0_copyPeople 26 = .ok (.iaload, 1) := by decide +kernel
theorem dX0_copyPeople_27 : decode cX0_copyPeople 27 = .ok (.iastore, 1) := by decide +kernel
theorem dX0_copyPeople_28 : decode cX0_copyPeople 28 = .ok (.aload_n 0, 1) := by decide +kernel
theorem dX0_copyPeople_29 : decode cX0_copyPeople 29 = .ok (.getfield 19, 3) := by decide +kernel
theorem dX0_copyPeople_32 : decode cX0_copyPeople 32 = .ok (.iload_n 2, 1) := by decide +kernel
theorem dX0_copyPeople_33 : decode cX0_copyPeople 33 = .ok (.aload_n 1, 1) := by decide +kernel
theorem dX0_copyPeople_34 : decode cX0_copyPeople 34 = .ok (.getfield 19, 3) := by decide +kernel
theorem dX0_copyPeople_37 : decode cX0_copyPeople 37 = .ok (.iload_n 2, 1) := by decide +kernel
theorem dX0_copyPeople_38 : decode cX0_copyPeople 38 = .ok (.iaload, 1) := by decide +kernel
theorem dX0_copyPeople_39 : decode cX0_copyPeople 39 = .ok (.iastore, 1) := by decide +kernel
theorem dX0_copyPeople_40 : decode cX0_copyPeople 40 = .ok (.iinc 2 1, 3) := by decide +kernel
theorem dX0_copyPeople_43 : decode cX0_copyPeople 43 = .ok (.goto (-33), 3) := by decide +kernel
theorem dX0_copyPeople_46 : decode cX0_copyPeople 46 = .ok (.aload_n 0, 1) := by decide +kernel
theorem dX0_copyPeople_47 : decode cX0_copyPeople 47 = .ok (.getfield 25, 3) := by decide +kernel
theorem dX0_copyPeople_50 : decode cX0_copyPeople 50 = .ok (.aload_n 1, 1) := by decide +kernel
theorem dX0_copyPeople_51 : decode cX0_copyPeople 51 = .ok (.getfield 25, 3) := by decide +kernel
theorem dX0_copyPeople_54 : decode cX0_copyPeople 54 = .ok (.invokevirtual 70, 3) := by decide +kernel
theorem dX0_copyPeople_57 : decode cX0_copyPeople 57 = .ok (.return_, 1) := by decide +kernel
theorem dX0_copyFrom_0 : decode cX0_copyFrom 0 = .ok (.aload_n 0, 1) := by decide +kernel
theorem dX0_copyFrom_1 : decode cX0_copyFrom 1 = .ok (.aload_n 1, 1) := by decide +kernel
theorem dX0_copyFrom_2 : decode cX0_copyFrom 2 = .ok (.invokevirtual 74, 3) := by decide +kernel
theorem dX0_copyFrom_5 : decode cX0_copyFrom 5 = .ok (.aload_n 0, 1) := by decide +kernel
theorem dX0_copyFrom_6 : decode cX0_copyFrom 6 = .ok (.aload_n 1, 1) := by decide +kernel
theorem dX0_copyFrom_7 : decode cX0_copyFrom 7 = .ok (.getfield 33, 3) := by decide +kernel
theorem dX0_copyFrom_10 : decode cX0_copyFrom 10 = .ok (.putfield 33, 3) := by decide +kernel
theorem dX0_copyFrom_13 : decode cX0_copyFrom 13 = .ok (.iconst 0, 1) := by decide +kernel
theorem dX0_copyFrom_14 : decode cX0_copyFrom 14 = .ok (.istore_n 2, 1) := by decide +kernel
theorem dX0_copyFrom_15 : decode cX0_copyFrom 15 = .ok (.iload_n 2, 1) := by decide +kernel
theorem dX0_copyFrom_16 : decode cX0_copyFrom 16 = .ok (.bipush 8, 2) := by decide +kernel
theorem dX0_copyFrom_18 : decode cX0_copyFrom 18 = .ok (.if_icmp .ge 24, 3) := by decide +kernel
theorem dX0_copyFrom_21 : decode cX0_copyFrom 21 = .ok (.aload_n 0, 1) := by decide +kernel
theorem dX0_copyFrom_22 : decode cX0_copyFrom 22 = .ok (.getfield 29, 3) := by decide +kernel
theorem dX0_copyFrom_25 : decode cX0_copyFrom 25 = .ok (.iload_n 2, 1) := by decide +kernel
theorem dX0_copyFrom_26 : decode cX0_copyFrom 26 = .ok (.aaload, 1) := by decide +kernel
theorem dX0_copyFrom_27 : decode cX0_copyFrom 27 = .ok (.aload_n 1, 1) := by decide +kernel
theorem dX0_copyFrom_28 : decode cX0_copyFrom 28 = .ok (.getfield 29, 3) := by decide +kernel
theorem dX0_copyFrom_31 : decode cX0_copyFrom 31 = .ok (.iload_n 2, 1) := by decide +kernel
theorem dX0_copyFrom_32 : decode cX0_copyFrom 32 = .ok (.aaload, 1) := by decide +kernel
theorem dX0_copyFrom_33 : decode cX0_copyFrom 33 = .ok (.invokevirtual 70, 3) := by decide +kernel
theorem dX0_copyFrom_36 : decode cX0_copyFrom 36 = .ok (.iinc 2 1, 3) := by decide +kernel
theorem dX0_copyFrom_39 : decode cX0_copyFrom 39 = .ok (.goto (-24), 3) := by decide +kernel
theorem dX0_copyFrom_42 : decode cX0_copyFrom 42 = .ok (.aload_n 0, 1) := by decide +kernel
theorem dX0_copyFrom_43 : decode cX0_copyFrom 43 = .ok (.getfield 39, 3) := by decide +kernel
theorem dX0_copyFrom_46 : decode cX0_copyFrom 46 = .ok (.aload_n 1, 1) := by decide +kernel
theorem dX0_copyFrom_47 : decode cX0_copyFrom 47 = .ok (.getfield 39, 3) := by decide +kernel
theorem dX0_copyFrom_50 : decode cX0_copyFrom 50 = .ok (.invokevirtual 78, 3) := by decide +kernel
theorem dX0_copyFrom_53 : decode cX0_copyFrom 53 = .ok (.aload_n 0, 1) := by decide +kernel
theorem dX0_copyFrom_54 : decode cX0_copyFrom 54 = .ok (.getfield 43, 3) := by decide +kernel
theorem dX0_copyFrom_57 : decode cX0_copyFrom 57 = .ok (.aload_n 1, 1) := by decide +kernel
theorem dX0_copyFrom_58 : decode cX0_copyFrom 58 = .ok (.getfield 43, 3) := by decide +kernel
theorem dX0_copyFrom_61 : decode cX0_copyFrom 61 = .ok (.invokevirtual 78, 3) := by decide +kernel
theorem dX0_copyFrom_64 : decode cX0_copyFrom 64 = .ok (.aload_n 0, 1) := by decide +kernel
theorem dX0_copyFrom_65 : decode cX0_copyFrom 65 = .ok (.getfield 46, 3) := by decide +kernel
theorem dX0_copyFrom_68 : decode cX0_copyFrom 68 = .ok (.aload_n 1, 1) := by decide +kernel
theorem dX0_copyFrom_69 : decode cX0_copyFrom 69 = .ok (.getfield 46, 3) := by decide +kernel
theorem dX0_copyFrom_72 : decode cX0_copyFrom 72 = .ok (.invokevirtual 78, 3) := by decide +kernel
theorem dX0_copyFrom_75 : decode cX0_copyFrom 75 = .ok (.return_, 1) := by decide +kernel
theorem dX0_hasPerson_0 : decode cX0_hasPerson 0 = .ok (.iload_n 1, 1) := by decide +kernel
theorem dX0_hasPerson_1 : decode cX0_hasPerson 1 = .ok (.iconst 0, 1) := by decide +kernel
theorem dX0_hasPerson_2 : decode cX0_hasPerson 2 = .ok (.aload_n 0, 1) := by decide +kernel
theorem dX0_hasPerson_3 : decode cX0_hasPerson 3 = .ok (.getfield 9, 3) := by decide +kernel
theorem dX0_hasPerson_6 : decode cX0_hasPerson 6 = .ok (.iconst 1, 1) := by decide +kernel
theorem dX0_hasPerson_7 : decode cX0_hasPerson 7 = .ok (.isub, 1) := by decide +kernel
theorem dX0_hasPerson_8 : decode cX0_hasPerson 8 = .ok (.invokestatic 81, 3) := by decide +kernel
theorem dX0_hasPerson_11 : decode cX0_hasPerson 11 = .ok (.ifCond .eq 13, 3) := by decide +kernel
theorem dX0_hasPerson_14 : decode cX0_hasPerson 14 = .ok (.iload_n 1, 1) := by decide +kernel
theorem dX0_hasPerson_15 : decode cX0_hasPerson 15 = .ok (.bipush 6, 2) := by decide +kernel
theorem dX0_hasPerson_17 : decode cX0_hasPerson 17 = .ok (.if_icmp .ge 7, 3) := by decide +kernel
theorem dX0_hasPerson_20 : decode cX0_hasPerson 20 = .ok (.iconst 1, 1) := by decide +kernel
theorem dX0_hasPerson_21 : decode cX0_hasPerson 21 = .ok (.goto 4, 3) := by decide +kernel
theorem dX0_hasPerson_24 : decode cX0_hasPerson 24 = .ok (.iconst 0, 1) := by decide +kernel
theorem dX0_hasPerson_25 : decode cX0_hasPerson 25 = .ok (.ireturn, 1) := by decide +kernel
theorem dX0_welcome_0 : decode cX0_welcome 0 = .ok (.aload_n 0, 1) := by decide +kernel
theorem dX0_welcome_1 : decode cX0_welcome 1 = .ok (.getfield 9, 3) := by decide +kernel
theorem dX0_welcome_4 : decode cX0_welcome 4 = .ok (.iconst 0, 1) := by decide +kernel
theorem dX0_welcome_5 : decode cX0_welcome 5 = .ok (.iconst 5, 1) := by decide +kernel
theorem dX0_welcome_6 : decode cX0_welcome 6 = .ok (.invokestatic 81, 3) := by decide +kernel
theorem dX0_welcome_9 : decode cX0_welcome 9 = .ok (.ifCond .eq 38, 3) := by decide +kernel
theorem dX0_welcome_12 : decode cX0_welcome 12 = .ok (.aload_n 0, 1) := by decide +kernel
theorem dX0_welcome_13 : decode cX0_welcome 13 = .ok (.getfield 15, 3) := by decide +kernel
theorem dX0_welcome_16 : decode cX0_welcome 16 = .ok (.aload_n 0, 1) := by decide +kernel
theorem dX0_welcome_17 : decode cX0_welcome 17 = .ok (.getfield 9, 3) := by decide +kernel
theorem dX0_welcome_20 : decode cX0_welcome 20 = .ok (.iload_n 1, 1) := by decide +kernel
theorem dX0_welcome_21 : decode cX0_welcome 21 = .ok (.iastore, 1) := by decide +kernel
theorem dX0_welcome_22 : decode cX0_welcome 22 = .ok (.aload_n 0, 1) := by decide +kernel
theorem dX0_welcome_23 : decode cX0_welcome 23 = .ok (.getfield 19, 3) := by decide +kernel
theorem dX0_welcome_26 : decode cX0_welcome 26 = .ok (.aload_n 0, 1) := by decide +kernel
theorem dX0_welcome_27 : decode cX0_welcome 27 = .ok (.getfield 9, 3) := by decide +kernel
theorem dX0_welcome_30 : decode cX0_welcome 30 = .ok (.iload_n 2, 1) := by decide +kernel
theorem dX0_welcome_31 : decode cX0_welcome 31 = .ok (.iastore, 1) := by decide +kernel
theorem dX0_welcome_32 : decode cX0_welcome 32 = .ok (.aload_n 0, 1) := by decide +kernel
theorem dX0_welcome_33 : decode cX0_welcome 33 = .ok (.dup, 1) := by decide +kernel
theorem dX0_welcome_34 : decode cX0_welcome 34 = .ok (.getfield 9, 3) := by decide +kernel
theorem dX0_welcome_37 : decode cX0_welcome 37 = .ok (.iconst 1, 1) := by decide +kernel
theorem dX0_welcome_38 : decode cX0_welcome 38 = .ok (.iadd, 1) := by decide +kernel
theorem dX0_welcome_39 : decode cX0_welcome 39 = .ok (.putfield 9, 3) := by decide +kernel
theorem dX0_welcome_42 : decode cX0_welcome 42 = .ok (.aload_n 0, 1) := by decide +kernel
theorem dX0_welcome_43 : decode cX0_welcome 43 = .ok (.iconst 0, 1) := by decide +kernel
theorem dX0_welcome_44 : decode cX0_welcome 44 = .ok (.putfield 33, 3) := by decide +kernel
theorem dX0_welcome_47 : decode cX0_welcome 47 = .ok (.return_, 1) := by decide +kernel
theorem dX0_remember_0 : decode cX0_remember 0 = .ok (.aload_n 0, 1) := by decide +kernel
theorem dX0_remember_1 : decode cX0_remember 1 = .ok (.getfield 33, 3) := by decide +kernel
theorem dX0_remember_4 : decode cX0_remember 4 = .ok (.bipush 8, 2) := by decide +kernel
theorem dX0_remember_6 : decode cX0_remember 6 = .ok (.if_icmp .lt 7, 3) := by decide +kernel
theorem dX0_remember_9 : decode cX0_remember 9 = .ok (.aload_n 0, 1) := by decide +kernel
theorem dX0_remember_10 : decode cX0_remember 10 = .ok (.invokevirtual 85, 3) := by decide +kernel
theorem dX0_remember_13 : decode cX0_remember 13 = .ok (.aload_n 0, 1) := by decide +kernel
theorem dX0_remember_14 : decode cX0_remember 14 = .ok (.getfield 33, 3) := by decide +kernel
theorem dX0_remember_17 : decode cX0_remember 17 = .ok (.iconst 0, 1) := by decide +kernel
theorem dX0_remember_18 : decode cX0_remember 18 = .ok (.bipush 7, 2) := by decide +kernel
theorem dX0_remember_20 : decode cX0_remember 20 = .ok (.invokestatic 81, 3) := by decide +kernel
theorem dX0_remember_23 : decode cX0_remember 23 = .ok (.ifCond .eq 29, 3) := by decide +kernel
theorem dX0_remember_26 : decode cX0_remember 26 = .ok (.aload_n 0, 1) := by decide +kernel
theorem dX0_remember_27 : decode cX0_remember 27 = .ok (.getfield 29, 3) := by decide +kernel
theorem dX0_remember_30 : decode cX0_remember 30 = .ok (.aload_n 0, 1) := by decide +kernel
theorem dX0_remember_31 : decode cX0_remember 31 = .ok (.getfield 33, 3) := by decide +kernel
theorem dX0_remember_34 : decode cX0_remember 34 = .ok (.aaload, 1) := by decide +kernel
theorem dX0_remember_35 : decode cX0_remember 35 = .ok (.aload_n 0, 1) := by decide +kernel
theorem dX0_remember_36 : decode cX0_remember 36 = .ok (.getfield 25, 3) := by decide +kernel
theorem dX0_remember_39 : decode cX0_remember 39 = .ok (.invokevirtual 70, 3) := by decide +kernel
theorem dX0_remember_42 : decode cX0_remember 42 = .ok (.aload_n 0, 1) := by decide +kernel
theorem dX0_remember_43 : decode cX0_remember 43 = .ok (.dup, 1) := by decide +kernel
theorem dX0_remember_44 : decode cX0_remember 44 = .ok (.getfield 33, 3) := by decide +kernel
theorem dX0_remember_47 : decode cX0_remember 47 = .ok (.iconst 1, 1) := by decide +kernel
theorem dX0_remember_48 : decode cX0_remember 48 = .ok (.iadd, 1) := by decide +kernel
theorem dX0_remember_49 : decode cX0_remember 49 = .ok (.putfield 33, 3) := by decide +kernel
theorem dX0_remember_52 : decode cX0_remember 52 = .ok (.return_, 1) := by decide +kernel
theorem dX0_dropOldest_0 : decode cX0_dropOldest 0 = .ok (.aload_n 0, 1) := by decide +kernel
theorem dX0_dropOldest_1 : decode cX0_dropOldest 1 = .ok (.getfield 29, 3) := by decide +kernel
theorem dX0_dropOldest_4 : decode cX0_dropOldest 4 = .ok (.iconst 0, 1) := by decide +kernel
theorem dX0_dropOldest_5 : decode cX0_dropOldest 5 = .ok (.aaload, 1) := by decide +kernel
theorem dX0_dropOldest_6 : decode cX0_dropOldest 6 = .ok (.astore_n 1, 1) := by decide +kernel
theorem dX0_dropOldest_7 : decode cX0_dropOldest 7 = .ok (.iconst 1, 1) := by decide +kernel
theorem dX0_dropOldest_8 : decode cX0_dropOldest 8 = .ok (.istore_n 2, 1) := by decide +kernel
theorem dX0_dropOldest_9 : decode cX0_dropOldest 9 = .ok (.iload_n 2, 1) := by decide +kernel
theorem dX0_dropOldest_10 : decode cX0_dropOldest 10 = .ok (.bipush 8, 2) := by decide +kernel
theorem dX0_dropOldest_12 : decode cX0_dropOldest 12 = .ok (.if_icmp .ge 23, 3) := by decide +kernel
theorem dX0_dropOldest_15 : decode cX0_dropOldest 15 = .ok (.aload_n 0, 1) := by decide +kernel
theorem dX0_dropOldest_16 : decode cX0_dropOldest 16 = .ok (.getfield 29, 3) := by decide +kernel
theorem dX0_dropOldest_19 : decode cX0_dropOldest 19 = .ok (.iload_n 2, 1) := by decide +kernel
theorem dX0_dropOldest_20 : decode cX0_dropOldest 20 = .ok (.iconst 1, 1) := by decide +kernel
theorem dX0_dropOldest_21 : decode cX0_dropOldest 21 = .ok (.isub, 1) := by decide +kernel
theorem dX0_dropOldest_22 : decode cX0_dropOldest 22 = .ok (.aload_n 0, 1) := by decide +kernel
theorem dX0_dropOldest_23 : decode cX0_dropOldest 23 = .ok (.getfield 29, 3) := by decide +kernel
theorem dX0_dropOldest_26 : decode cX0_dropOldest 26 = .ok (.iload_n 2, 1) := by decide +kernel
theorem dX0_dropOldest_27 : decode cX0_dropOldest 27 = .ok (.aaload, 1) := by decide +kernel
theorem dX0_dropOldest_28 : decode cX0_dropOldest 28 = .ok (.aastore, 1) := by decide +kernel
theorem dX0_dropOldest_29 : decode cX0_dropOldest 29 = .ok (.iinc 2 1, 3) := by decide +kernel
theorem dX0_dropOldest_32 : decode cX0_dropOldest 32 = .ok (.goto (-23), 3) := by decide +kernel
theorem dX0_dropOldest_35 : decode cX0_dropOldest 35 = .ok (.aload_n 0, 1) := by decide +kernel
theorem dX0_dropOldest_36 : decode cX0_dropOldest 36 = .ok (.getfield 29, 3) := by decide +kernel
theorem dX0_dropOldest_39 : decode cX0_dropOldest 39 = .ok (.bipush 7, 2) := by decide +kernel
theorem dX0_dropOldest_41 : decode cX0_dropOldest 41 = .ok (.aload_n 1, 1) := by decide +kernel
theorem dX0_dropOldest_42 : decode cX0_dropOldest 42 = .ok (.aastore, 1) := by decide +kernel
theorem dX0_dropOldest_43 : decode cX0_dropOldest 43 = .ok (.aload_n 0, 1) := by decide +kernel
theorem dX0_dropOldest_44 : decode cX0_dropOldest 44 = .ok (.bipush 7, 2) := by decide +kernel
theorem dX0_dropOldest_46 : decode cX0_dropOldest 46 = .ok (.putfield 33, 3) := by decide +kernel
theorem dX0_dropOldest_49 : decode cX0_dropOldest 49 = .ok (.return_, 1) := by decide +kernel
theorem dX0_goBack_0 : decode cX0_goBack 0 = .ok (.aload_n 0, 1) := by decide +kernel
theorem dX0_goBack_1 : decode cX0_goBack 1 = .ok (.getfield 33, 3) := by decide +kernel
theorem dX0_goBack_4 : decode cX0_goBack 4 = .ok (.iconst 1, 1) := by decide +kernel
theorem dX0_goBack_5 : decode cX0_goBack 5 = .ok (.bipush 8, 2) := by decide +kernel
theorem dX0_goBack_7 : decode cX0_goBack 7 = .ok (.invokestatic 81, 3) := by decide +kernel
theorem dX0_goBack_10 : decode cX0_goBack 10 = .ok (.ifCond .eq 29, 3) := by decide +kernel
theorem dX0_goBack_13 : decode cX0_goBack 13 = .ok (.aload_n 0, 1) := by decide +kernel
theorem dX0_goBack_14 : decode cX0_goBack 14 = .ok (.dup, 1) := by decide +kernel
theorem dX0_goBack_15 : decode cX0_goBack 15 = .ok (.getfield 33, 3) := by decide +kernel
theorem dX0_goBack_18 : decode cX0_goBack 18 = .ok (.iconst 1, 1) := by decide +kernel
theorem dX0_goBack_19 : decode cX0_goBack 19 = .ok (.isub, 1) := by decide +kernel
theorem dX0_goBack_20 : decode cX0_goBack 20 = .ok (.putfield 33, 3) := by decide +kernel
theorem dX0_goBack_23 : decode cX0_goBack 23 = .ok (.aload_n 0, 1) := by decide +kernel
theorem dX0_goBack_24 : decode cX0_goBack 24 = .ok (.getfield 25, 3) := by decide +kernel
theorem dX0_goBack_27 : decode cX0_goBack 27 = .ok (.aload_n 0, 1) := by decide +kernel
theorem dX0_goBack_28 : decode cX0_goBack 28 = .ok (.getfield 29, 3) := by decide +kernel
theorem dX0_goBack_31 : decode cX0_goBack 31 = .ok (.aload_n 0, 1) := by decide +kernel
theorem dX0_goBack_32 : decode cX0_goBack 32 = .ok (.getfield 33, 3) := by decide +kernel
theorem dX0_goBack_35 : decode cX0_goBack 35 = .ok (.aaload, 1) := by decide +kernel
theorem dX0_goBack_36 : decode cX0_goBack 36 = .ok (.invokevirtual 70, 3) := by decide +kernel
theorem dX0_goBack_39 : decode cX0_goBack 39 = .ok (.return_, 1) := by decide +kernel
theorem dX0_worth_0 : decode cX0_worth 0 = .ok (.aload_n 0, 1) := by decide +kernel
theorem dX0_worth_1 : decode cX0_worth 1 = .ok (.getfield 59, 3) := by decide +kernel
theorem dX0_worth_4 : decode cX0_worth 4 = .ok (.aload_n 0, 1) := by decide +kernel
theorem dX0_worth_5 : decode cX0_worth 5 = .ok (.getfield 15, 3) := by decide +kernel
theorem dX0_worth_8 : decode cX0_worth 8 = .ok (.iload_n 1, 1) := by decide +kernel
theorem dX0_worth_9 : decode cX0_worth 9 = .ok (.iaload, 1) := by decide +kernel
theorem dX0_worth_10 : decode cX0_worth 10 = .ok (.aload_n 0, 1) := by decide +kernel
theorem dX0_worth_11 : decode cX0_worth 11 = .ok (.getfield 25, 3) := by decide +kernel
theorem dX0_worth_14 : decode cX0_worth 14 = .ok (.getfield 88, 3) := by decide +kernel
theorem dX0_worth_17 : decode cX0_worth 17 = .ok (.iload_n 1, 1) := by decide +kernel
theorem dX0_worth_18 : decode cX0_worth 18 = .ok (.iaload, 1) := by decide +kernel
theorem dX0_worth_19 : decode cX0_worth 19 = .ok (.iload_n 2, 1) := by decide +kernel
theorem dX0_worth_20 : decode cX0_worth 20 = .ok (.bipush 24, 2) := by decide +kernel
theorem dX0_worth_22 : decode cX0_worth 22 = .ok (.irem, 1) := by decide +kernel
theorem dX0_worth_23 : decode cX0_worth 23 = .ok (.invokevirtual 91, 3) := by decide +kernel
theorem dX0_worth_26 : decode cX0_worth 26 = .ok (.ireturn, 1) := by decide +kernel
theorem dX0_wanted_0 : decode cX0_wanted 0 = .ok (.aload_n 0, 1) := by decide +kernel
theorem dX0_wanted_1 : decode cX0_wanted 1 = .ok (.getfield 52, 3) := by decide +kernel
theorem dX0_wanted_4 : decode cX0_wanted 4 = .ok (.aload_n 0, 1) := by decide +kernel
theorem dX0_wanted_5 : decode cX0_wanted 5 = .ok (.getfield 25, 3) := by decide +kernel
theorem dX0_wanted_8 : decode cX0_wanted 8 = .ok (.getfield 95, 3) := by decide +kernel
theorem dX0_wanted_11 : decode cX0_wanted 11 = .ok (.iload_n 2, 1) := by decide +kernel
theorem dX0_wanted_12 : decode cX0_wanted 12 = .ok (.iaload, 1) := by decide +kernel
theorem dX0_wanted_13 : decode cX0_wanted 13 = .ok (.aload_n 0, 1) := by decide +kernel
theorem dX0_wanted_14 : decode cX0_wanted 14 = .ok (.getfield 19, 3) := by decide +kernel
theorem dX0_wanted_17 : decode cX0_wanted 17 = .ok (.iload_n 1, 1) := by decide +kernel
theorem dX0_wanted_18 : decode cX0_wanted 18 = .ok (.iaload, 1) := by decide +kernel
theorem dX0_wanted_19 : decode cX0_wanted 19 = .ok (.iload_n 3, 1) := by decide +kernel
theorem dX0_wanted_20 : decode cX0_wanted 20 = .ok (.bipush 24, 2) := by decide +kernel
theorem dX0_wanted_22 : decode cX0_wanted 22 = .ok (.irem, 1) := by decide +kernel
theorem dX0_wanted_23 : decode cX0_wanted 23 = .ok (.invokevirtual 98, 3) := by decide +kernel
theorem dX0_wanted_26 : decode cX0_wanted 26 = .ok (.ireturn, 1) := by decide +kernel
theorem dX0_othersWhoKnow_0 : decode cX0_othersWhoKnow 0 = .ok (.aload_n 0, 1) := by decide +kernel
theorem dX0_othersWhoKnow_1 : decode cX0_othersWhoKnow 1 = .ok (.getfield 25, 3) := by decide +kernel
theorem dX0_othersWhoKnow_4 : decode cX0_othersWhoKnow 4 = .ok (.iload_n 2, 1) := by decide +kernel
theorem dX0_othersWhoKnow_5 : decode cX0_othersWhoKnow 5 = .ok (.invokevirtual 99, 3) := by decide +kernel
theorem dX0_othersWhoKnow_8 : decode cX0_othersWhoKnow 8 = .ok (.iconst 1, 1) := by decide +kernel
theorem dX0_othersWhoKnow_9 : decode cX0_othersWhoKnow 9 = .ok (.iload_n 1, 1) := by decide +kernel
theorem dX0_othersWhoKnow_10 : decode cX0_othersWhoKnow 10 = .ok (.ishl, 1) := by decide +kernel
theorem dX0_othersWhoKnow_11 : decode cX0_othersWhoKnow 11 = .ok (.iconst (-1), 1) := by decide +kernel
theorem dX0_othersWhoKnow_12 : decode cX0_othersWhoKnow 12 = .ok (.ixor, 1) := by decide +kernel
theorem dX0_othersWhoKnow_13 : decode cX0_othersWhoKnow 13 = .ok (.iand, 1) := by decide +kernel
theorem dX0_othersWhoKnow_14 : decode cX0_othersWhoKnow 14 = .ok (.ireturn, 1) := by decide +kernel
theorem dX0_wordOf_0 : decode cX0_wordOf 0 = .ok (.iconst 0, 1) := by decide +kernel
theorem dX0_wordOf_1 : decode cX0_wordOf 1 = .ok (.istore_n 3, 1) := by decide +kernel
theorem dX0_wordOf_2 : decode cX0_wordOf 2 = .ok (.iconst 0, 1) := by decide +kernel
theorem dX0_wordOf_3 : decode cX0_wordOf 3 = .ok (.istore 4, 2) := by decide +kernel
theorem dX0_wordOf_5 : decode cX0_wordOf 5 = .ok (.iload 4, 2) := by decide +kernel
theorem dX0_wordOf_7 : decode cX0_wordOf 7 = .ok (.aload_n 0, 1) := by decide +kernel
theorem dX0_wordOf_8 : decode cX0_wordOf 8 = .ok (.getfield 9, 3) := by decide +kernel
theorem dX0_wordOf_11 : decode cX0_wordOf 11 = .ok (.if_icmp .ge 36, 3) := by decide +kernel
theorem dX0_wordOf_14 : decode cX0_wordOf 14 = .ok (.iload 4, 2) := by decide +kernel
theorem dX0_wordOf_16 : decode cX0_wordOf 16 = .ok (.bipush 6, 2) := by decide +kernel
theorem dX0_wordOf_18 : decode cX0_wordOf 18 = .ok (.if_icmp .ge 29, 3) := by decide +kernel
theorem dX0_wordOf_21 : decode cX0_wordOf 21 = .ok (.iload_n 1, 1) := by decide +kernel
theorem dX0_wordOf_22 : decode cX0_wordOf 22 = .ok (.iload 4, 2) := by decide +kernel
theorem dX0_wordOf_24 : decode cX0_wordOf 24 = .ok (.ishr, 1) := by decide +kernel
theorem dX0_wordOf_25 : decode cX0_wordOf 25 = .ok (.iconst 1, 1) := by decide +kernel
theorem dX0_wordOf_26 : decode cX0_wordOf 26 = .ok (.iand, 1) := by decide +kernel
theorem dX0_wordOf_27 : decode cX0_wordOf 27 = .ok (.iconst 1, 1) := by decide +kernel
theorem dX0_wordOf_28 : decode cX0_wordOf 28 = .ok (.if_icmp .ne 13, 3) := by decide +kernel
theorem dX0_wordOf_31 : decode cX0_wordOf 31 = .ok (.iload_n 3, 1) := by decide +kernel
theorem dX0_wordOf_32 : decode cX0_wordOf 32 = .ok (.aload_n 0, 1) := by decide +kernel
theorem dX0_wordOf_33 : decode cX0_wordOf 33 = .ok (.iload 4, 2) := by decide +kernel
theorem dX0_wordOf_35 : decode cX0_wordOf 35 = .ok (.iload_n 2, 1) := by decide +kernel
theorem dX0_wordOf_36 : decode cX0_wordOf 36 = .ok (.invokevirtual 103, 3) := by decide +kernel
theorem dX0_wordOf_39 : decode cX0_wordOf 39 = .ok (.iadd, 1) := by decide +kernel
theorem dX0_wordOf_40 : decode cX0_wordOf 40 = .ok (.istore_n 3, 1) := by decide +kernel
theorem dX0_wordOf_41 : decode cX0_wordOf 41 = .ok (.iinc 4 1, 3) := by decide +kernel
theorem dX0_wordOf_44 : decode cX0_wordOf 44 = .ok (.goto (-39), 3) := by decide +kernel
theorem dX0_wordOf_47 : decode cX0_wordOf 47 = .ok (.iload_n 3, 1) := by decide +kernel
theorem dX0_wordOf_48 : decode cX0_wordOf 48 = .ok (.ireturn, 1) := by decide +kernel
theorem dX0_couldMeet_0 : decode cX0_couldMeet 0 = .ok (.aload_n 0, 1) := by decide +kernel
theorem dX0_couldMeet_1 : decode cX0_couldMeet 1 = .ok (.getfield 25, 3) := by decide +kernel
theorem dX0_couldMeet_4 : decode cX0_couldMeet 4 = .ok (.iload_n 1, 1) := by decide +kernel
theorem dX0_couldMeet_5 : decode cX0_couldMeet 5 = .ok (.iload_n 2, 1) := by decide +kernel
theorem dX0_couldMeet_6 : decode cX0_couldMeet 6 = .ok (.invokevirtual 107, 3) := by decide +kernel
theorem dX0_couldMeet_9 : decode cX0_couldMeet 9 = .ok (.ifCond .ne 21, 3) := by decide +kernel
theorem dX0_couldMeet_12 : decode cX0_couldMeet 12 = .ok (.aload_n 0, 1) := by decide +kernel
theorem dX0_couldMeet_13 : decode cX0_couldMeet 13 = .ok (.iload_n 3, 1) := by decide +kernel
theorem dX0_couldMeet_14 : decode cX0_couldMeet 14 = .ok (.iload 4, 2) := by decide +kernel
theorem dX0_couldMeet_16 : decode cX0_couldMeet 16 = .ok (.invokevirtual 111, 3) := by decide +kernel
theorem dX0_couldMeet_19 : decode cX0_couldMeet 19 = .ok (.aload_n 0, 1) := by decide +kernel
theorem dX0_couldMeet_20 : decode cX0_couldMeet 20 = .ok (.iload_n 1, 1) := by decide +kernel
theorem dX0_couldMeet_21 : decode cX0_couldMeet 21 = .ok (.iload_n 2, 1) := by decide +kernel
theorem dX0_couldMeet_22 : decode cX0_couldMeet 22 = .ok (.iload 4, 2) := by decide +kernel
theorem dX0_couldMeet_24 : decode cX0_couldMeet 24 = .ok (.invokevirtual 114, 3) := by decide +kernel
theorem dX0_couldMeet_27 : decode cX0_couldMeet 27 = .ok (.if_icmp .lt 7, 3) := by decide +kernel
theorem dX0_couldMeet_30 : decode cX0_couldMeet 30 = .ok (.iconst 1, 1) := by decide +kernel
theorem dX0_couldMeet_31 : decode cX0_couldMeet 31 = .ok (.goto 4, 3) := by decide +kernel
theorem dX0_couldMeet_34 : decode cX0_couldMeet 34 = .ok (.iconst 0, 1) := by decide +kernel
theorem dX0_couldMeet_35 : decode cX0_couldMeet 35 = .ok (.ireturn, 1) := by decide +kernel
theorem dX0_introduce_0 : decode cX0_introduce 0 = .ok (.aload_n 0, 1) := by decide +kernel
theorem dX0_introduce_1 : decode cX0_introduce 1 = .ok (.iload_n 1, 1) := by decide +kernel
theorem dX0_introduce_2 : decode cX0_introduce 2 = .ok (.iload_n 2, 1) := by decide +kernel
theorem dX0_introduce_3 : decode cX0_introduce 3 = .ok (.aload_n 0, 1) := by decide +kernel
theorem dX0_introduce_4 : decode cX0_introduce 4 = .ok (.iload_n 1, 1) := by decide +kernel
theorem dX0_introduce_5 : decode cX0_introduce 5 = .ok (.iload_n 2, 1) := by decide +kernel
theorem dX0_introduce_6 : decode cX0_introduce 6 = .ok (.invokevirtual 117, 3) := by decide +kernel
theorem dX0_introduce_9 : decode cX0_introduce 9 = .ok (.aload_n 0, 1) := by decide +kernel
theorem dX0_introduce_10 : decode cX0_introduce 10 = .ok (.getfield 25, 3) := by decide +kernel
theorem dX0_introduce_13 : decode cX0_introduce 13 = .ok (.getfield 120, 3) := by decide +kernel
theorem dX0_introduce_16 : decode cX0_introduce 16 = .ok (.invokevirtual 123, 3) := by decide +kernel
theorem dX0_introduce_19 : decode cX0_introduce 19 = .ok (.ifCond .eq 12, 3) := by decide +kernel
theorem dX0_introduce_22 : decode cX0_introduce 22 = .ok (.aload_n 0, 1) := by decide +kernel
theorem dX0_introduce_23 : decode cX0_introduce 23 = .ok (.getfield 25, 3) := by decide +kernel
theorem dX0_introduce_26 : decode cX0_introduce 26 = .ok (.iload_n 1, 1) := by decide +kernel
theorem dX0_introduce_27 : decode cX0_introduce 27 = .ok (.iload_n 2, 1) := by decide +kernel
theorem dX0_introduce_28 : decode cX0_introduce 28 = .ok (.invokevirtual 127, 3) := by decide +kernel
theorem dX0_introduce_31 : decode cX0_introduce 31 = .ok (.aload_n 0, 1) := by decide +kernel
theorem dX0_introduce_32 : decode cX0_introduce 32 = .ok (.getfield 25, 3) := by decide +kernel
theorem dX0_introduce_35 : decode cX0_introduce 35 = .ok (.invokevirtual 131, 3) := by decide +kernel
theorem dX0_introduce_38 : decode cX0_introduce 38 = .ok (.return_, 1) := by decide +kernel
theorem dX0_meetable_0 : decode cX0_meetable 0 = .ok (.iconst 0, 1) := by decide +kernel
theorem dX0_meetable_1 : decode cX0_meetable 1 = .ok (.istore 4, 2) := by decide +kernel
theorem dX0_meetable_3 : decode cX0_meetable 3 = .ok (.iconst 0, 1) := by decide +kernel
theorem dX0_meetable_4 : decode cX0_meetable 4 = .ok (.istore 5, 2) := by decide +kernel
theorem dX0_meetable_6 : decode cX0_meetable 6 = .ok (.iload 5, 2) := by decide +kernel
theorem dX0_meetable_8 : decode cX0_meetable 8 = .ok (.bipush 8, 2) := by decide +kernel
theorem dX0_meetable_10 : decode cX0_meetable 10 = .ok (.if_icmp .ge 46, 3) := by decide +kernel
theorem dX0_meetable_13 : decode cX0_meetable 13 = .ok (.iload_n 2, 1) := by decide +kernel
theorem dX0_meetable_14 : decode cX0_meetable 14 = .ok (.iload 5, 2) := by decide +kernel
theorem dX0_meetable_16 : decode cX0_meetable 16 = .ok (.ishr, 1) := by decide +kernel
theorem dX0_meetable_17 : decode cX0_meetable 17 = .ok (.iconst 1, 1) := by decide +kernel
theorem dX0_meetable_18 : decode cX0_meetable 18 = .ok (.iand, 1) := by decide +kernel
theorem dX0_meetable_19 : decode cX0_meetable 19 = .ok (.iconst 1, 1) := by decide +kernel
theorem dX0_meetable_20 : decode cX0_meetable 20 = .ok (.if_icmp .ne 30, 3) := by decide +kernel
theorem dX0_meetable_23 : decode cX0_meetable 23 = .ok (.aload_n 0, 1) := by decide +kernel
theorem dX0_meetable_24 : decode cX0_meetable 24 = .ok (.iload_n 1, 1) := by decide +kernel
theorem dX0_meetable_25 : decode cX0_meetable 25 = .ok (.iload 5, 2) := by decide +kernel
theorem dX0_meetable_27 : decode cX0_meetable 27 = .ok (.aload_n 0, 1) := by decide +kernel
theorem dX0_meetable_28 : decode cX0_meetable 28 = .ok (.iload_n 1, 1) := by decide +kernel
theorem dX0_meetable_29 : decode cX0_meetable 29 = .ok (.iload 5, 2) := by decide +kernel
theorem dX0_meetable_31 : decode cX0_meetable 31 = .ok (.invokevirtual 117, 3) := by decide +kernel
theorem dX0_meetable_34 : decode cX0_meetable 34 = .ok (.iload_n 3, 1) := by decide +kernel
theorem dX0_meetable_35 : decode cX0_meetable 35 = .ok (.invokevirtual 123, 3) := by decide +kernel
theorem dX0_meetable_38 : decode cX0_meetable 38 = .ok (.ifCond .eq 12, 3) := by decide +kernel
theorem dX0_meetable_41 : decode cX0_meetable 41 = .ok (.iload 4, 2) := by decide +kernel
theorem dX0_meetable_43 : decode cX0_meetable 43 = .ok (.iconst 1, 1) := by decide +kernel
theorem dX0_meetable_44 : decode cX0_meetable 44 = .ok (.iload 5, 2) := by decide +kernel
theorem dX0_meetable_46 : decode cX0_meetable 46 = .ok (.ishl, 1) := by decide +kernel
theorem dX0_meetable_47 : decode cX0_meetable 47 = .ok (.ior, 1) := by decide +kernel
theorem dX0_meetable_48 : decode cX0_meetable 48 = .ok (.istore 4, 2) := by decide +kernel
theorem dX0_meetable_50 : decode cX0_meetable 50 = .ok (.iinc 5 1, 3) := by decide +kernel
theorem dX0_meetable_53 : decode cX0_meetable 53 = .ok (.goto (-47), 3) := by decide +kernel
theorem dX0_meetable_56 : decode cX0_meetable 56 = .ok (.iload 4, 2) := by decide +kernel
theorem dX0_meetable_58 : decode cX0_meetable 58 = .ok (.ireturn, 1) := by decide +kernel
theorem dX0_lacking_0 : decode cX0_lacking 0 = .ok (.iconst 0, 1) := by decide +kernel
theorem dX0_lacking_1 : decode cX0_lacking 1 = .ok (.istore_n 3, 1) := by decide +kernel
theorem dX0_lacking_2 : decode cX0_lacking 2 = .ok (.aload_n 0, 1) := by decide +kernel
theorem dX0_lacking_3 : decode cX0_lacking 3 = .ok (.getfield 25, 3) := by decide +kernel
theorem dX0_lacking_6 : decode cX0_lacking 6 = .ok (.getfield 88, 3) := by decide +kernel
theorem dX0_lacking_9 : decode cX0_lacking 9 = .ok (.iload_n 1, 1) := by decide +kernel
theorem dX0_lacking_10 : decode cX0_lacking 10 = .ok (.iaload, 1) := by decide +kernel
theorem dX0_lacking_11 : decode cX0_lacking 11 = .ok (.iconst 1, 1) := by decide +kernel
theorem dX0_lacking_12 : decode cX0_lacking 12 = .ok (.iadd, 1) := by decide +kernel
theorem dX0_lacking_13 : decode cX0_lacking 13 = .ok (.istore 4, 2) := by decide +kernel
theorem dX0_lacking_15 : decode cX0_lacking 15 = .ok (.iload 4, 2) := by decide +kernel
theorem dX0_lacking_17 : decode cX0_lacking 17 = .ok (.iload_n 2, 1) := by decide +kernel
theorem dX0_lacking_18 : decode cX0_lacking 18 = .ok (.if_icmp .gt 23, 3) := by decide +kernel
theorem dX0_lacking_21 : decode cX0_lacking 21 = .ok (.iload 4, 2) := by decide +kernel
theorem dX0_lacking_23 : decode cX0_lacking 23 = .ok (.bipush 8, 2) := by decide +kernel
theorem dX0_lacking_25 : decode cX0_lacking 25 = .ok (.if_icmp .ge 16, 3) := by decide +kernel
theorem dX0_lacking_28 : decode cX0_lacking 28 = .ok (.iload_n 3, 1) := by decide +kernel
theorem dX0_lacking_29 : decode cX0_lacking 29 = .ok (.iconst 1, 1) := by decide +kernel
theorem dX0_lacking_30 : decode cX0_lacking 30 = .ok (.iload 4, 2) := by decide +kernel
theorem dX0_lacking_32 : decode cX0_lacking 32 = .ok (.ishl, 1) := by decide +kernel
theorem dX0_lacking_33 : decode cX0_lacking 33 = .ok (.ior, 1) := by decide +kernel
theorem dX0_lacking_34 : decode cX0_lacking 34 = .ok (.istore_n 3, 1) := by decide +kernel
theorem dX0_lacking_35 : decode cX0_lacking 35 = .ok (.iinc 4 1, 3) := by decide +kernel
theorem dX0_lacking_38 : decode cX0_lacking 38 = .ok (.goto (-23), 3) := by decide +kernel
theorem dX0_lacking_41 : decode cX0_lacking 41 = .ok (.iload_n 3, 1) := by decide +kernel
theorem dX0_lacking_42 : decode cX0_lacking 42 = .ok (.aload_n 0, 1) := by decide +kernel
theorem dX0_lacking_43 : decode cX0_lacking 43 = .ok (.getfield 25, 3) := by decide +kernel
theorem dX0_lacking_46 : decode cX0_lacking 46 = .ok (.getfield 134, 3) := by decide +kernel
theorem dX0_lacking_49 : decode cX0_lacking 49 = .ok (.iload_n 1, 1) := by decide +kernel
theorem dX0_lacking_50 : decode cX0_lacking 50 = .ok (.iaload, 1) := by decide +kernel
theorem dX0_lacking_51 : decode cX0_lacking 51 = .ok (.iconst (-1), 1) := by decide +kernel
theorem dX0_lacking_52 : decode cX0_lacking 52 = .ok (.ixor, 1) := by decide +kernel
theorem dX0_lacking_53 : decode cX0_lacking 53 = .ok (.iand, 1) := by decide +kernel
theorem dX0_lacking_54 : decode cX0_lacking 54 = .ok (.ireturn, 1) := by decide +kernel
theorem dX0_fitsSights_0 : decode cX0_fitsSights 0 = .ok (.iconst 0, 1) := by decide +kernel
theorem dX0_fitsSights_1 : decode cX0_fitsSights 1 = .ok (.istore_n 3, 1) := by decide +kernel
theorem dX0_fitsSights_2 : decode cX0_fitsSights 2 = .ok (.iload_n 3, 1) := by decide +kernel
theorem dX0_fitsSights_3 : decode cX0_fitsSights 3 = .ok (.aload_n 0, 1) := by decide +kernel
theorem dX0_fitsSights_4 : decode cX0_fitsSights 4 = .ok (.getfield 39, 3) := by decide +kernel
theorem dX0_fitsSights_7 : decode cX0_fitsSights 7 = .ok (.getfield 137, 3) := by decide +kernel
theorem dX0_fitsSights_10 : decode cX0_fitsSights 10 = .ok (.if_icmp .ge 78, 3) := by decide +kernel
theorem dX0_fitsSights_13 : decode cX0_fitsSights 13 = .ok (.aload_n 0, 1) := by decide +kernel
theorem dX0_fitsSights_14 : decode cX0_fitsSights 14 = .ok (.getfield 39, 3) := by decide +kernel
theorem dX0_fitsSights_17 : decode cX0_fitsSights 17 = .ok (.iload_n 3, 1) := by decide +kernel
theorem dX0_fitsSights_18 : decode cX0_fitsSights 18 = .ok (.iconst 0, 1) := by decide +kernel
theorem dX0_fitsSights_19 : decode cX0_fitsSights 19 = .ok (.invokevirtual 140, 3) := by decide +kernel
theorem dX0_fitsSights_22 : decode cX0_fitsSights 22 = .ok (.iload_n 1, 1) := by decide +kernel
theorem dX0_fitsSights_23 : decode cX0_fitsSights 23 = .ok (.if_icmp .ne 59, 3) := by decide +kernel
theorem dX0_fitsSights_26 : decode cX0_fitsSights 26 = .ok (.iconst 1, 1) := by decide +kernel
theorem dX0_fitsSights_27 : decode cX0_fitsSights 27 = .ok (.aload_n 0, 1) := by decide +kernel
theorem dX0_fitsSights_28 : decode cX0_fitsSights 28 = .ok (.getfield 39, 3) := by decide +kernel
theorem dX0_fitsSights_31 : decode cX0_fitsSights 31 = .ok (.iload_n 3, 1) := by decide +kernel
theorem dX0_fitsSights_32 : decode cX0_fitsSights 32 = .ok (.iconst 1, 1) := by decide +kernel
theorem dX0_fitsSights_33 : decode cX0_fitsSights 33 = .ok (.invokevirtual 140, 3) := by decide +kernel
theorem dX0_fitsSights_36 : decode cX0_fitsSights 36 = .ok (.ishl, 1) := by decide +kernel
theorem dX0_fitsSights_37 : decode cX0_fitsSights 37 = .ok (.istore 4, 2) := by decide +kernel
theorem dX0_fitsSights_39 : decode cX0_fitsSights 39 = .ok (.aload_n 0, 1) := by decide +kernel
theorem dX0_fitsSights_40 : decode cX0_fitsSights 40 = .ok (.getfield 39, 3) := by decide +kernel
theorem dX0_fitsSights_43 : decode cX0_fitsSights 43 = .ok (.iload_n 3, 1) := by decide +kernel
theorem dX0_fitsSights_44 : decode cX0_fitsSights 44 = .ok (.iconst 2, 1) := by decide +kernel
theorem dX0_fitsSights_45 : decode cX0_fitsSights 45 = .ok (.invokevirtual 140, 3) := by decide +kernel
theorem dX0_fitsSights_48 : decode cX0_fitsSights 48 = .ok (.iconst 1, 1) := by decide +kernel
theorem dX0_fitsSights_49 : decode cX0_fitsSights 49 = .ok (.if_icmp .ne 10, 3) := by decide +kernel
theorem dX0_fitsSights_52 : decode cX0_fitsSights 52 = .ok (.iload 4, 2) := by decide +kernel
theorem dX0_fitsSights_54 : decode cX0_fitsSights 54 = .ok (.iconst 1, 1) := by decide +kernel
theorem dX0_fitsSights_55 : decode cX0_fitsSights 55 = .ok (.isub, 1) := by decide +kernel
theorem dX0_fitsSights_56 : decode cX0_fitsSights 56 = .ok (.goto 9, 3) := by decide +kernel
theorem dX0_fitsSights_59 : decode cX0_fitsSights 59 = .ok (.iconst 2, 1) := by decide +kernel
theorem dX0_fitsSights_60 : decode cX0_fitsSights 60 = .ok (.iload 4, 2) := by decide +kernel
theorem dX0_fitsSights_62 : decode cX0_fitsSights 62 = .ok (.imul, 1) := by decide +kernel
theorem dX0_fitsSights_63 : decode cX0_fitsSights 63 = .ok (.iconst 1, 1) := by decide +kernel
theorem dX0_fitsSights_64 : decode cX0_fitsSights 64 = .ok (.isub, 1) := by decide +kernel
theorem dX0_fitsSights_65 : decode cX0_fitsSights 65 = .ok (.istore 5, 2) := by decide +kernel
theorem dX0_fitsSights_67 : decode cX0_fitsSights 67 = .ok (.iload_n 2, 1) := by decide +kernel
theorem dX0_fitsSights_68 : decode cX0_fitsSights 68 = .ok (.iconst 2, 1) := by decide +kernel
theorem dX0_fitsSights_69 : decode cX0_fitsSights 69 = .ok (.iload 4, 2) := by decide +kernel
theorem dX0_fitsSights_71 : decode cX0_fitsSights 71 = .ok (.imul, 1) := by decide +kernel
theorem dX0_fitsSights_72 : decode cX0_fitsSights 72 = .ok (.iconst 1, 1) := by decide +kernel
theorem dX0_fitsSights_73 : decode cX0_fitsSights 73 = .ok (.isub, 1) := by decide +kernel
theorem dX0_fitsSights_74 : decode cX0_fitsSights 74 = .ok (.iand, 1) := by decide +kernel
theorem dX0_fitsSights_75 : decode cX0_fitsSights 75 = .ok (.iload 5, 2) := by decide +kernel
theorem dX0_fitsSights_77 : decode cX0_fitsSights 77 = .ok (.if_icmp .eq 5, 3) := by decide +kernel
theorem dX0_fitsSights_80 : decode cX0_fitsSights 80 = .ok (.iconst 0, 1) := by decide +kernel
theorem dX0_fitsSights_81 : decode cX0_fitsSights 81 = .ok (.ireturn, 1) := by decide +kernel
theorem dX0_fitsSights_82 : decode cX0_fitsSights 82 = .ok (.iinc 3 1, 3) := by decide +kernel
theorem dX0_fitsSights_85 : decode cX0_fitsSights 85 = .ok (.goto (-83), 3) := by decide +kernel
theorem dX0_fitsSights_88 : decode cX0_fitsSights 88 = .ok (.iconst 1, 1) := by decide +kernel
theorem dX0_fitsSights_89 : decode cX0_fitsSights 89 = .ok (.ireturn, 1) := by decide +kernel
theorem dX0_restingPairs_0 : decode cX0_restingPairs 0 = .ok (.iconst 0, 1) := by decide +kernel
theorem dX0_restingPairs_1 : decode cX0_restingPairs 1 = .ok (.istore 5, 2) := by decide +kernel
theorem dX0_restingPairs_3 : decode cX0_restingPairs 3 = .ok (.iconst 0, 1) := by decide +kernel
theorem dX0_restingPairs_4 : decode cX0_restingPairs 4 = .ok (.istore 6, 2) := by decide +kernel
theorem dX0_restingPairs_6 : decode cX0_restingPairs 6 = .ok (.iload 6, 2) := by decide +kernel
theorem dX0_restingPairs_8 : decode cX0_restingPairs 8 = .ok (.iconst 4, 1) := by decide +kernel
theorem dX0_restingPairs_9 : decode cX0_restingPairs 9 = .ok (.if_icmp .ge 100, 3) := by decide +kernel
theorem dX0_restingPairs_12 : decode cX0_restingPairs 12 = .ok (.aload_n 0, 1) := by decide +kernel
theorem dX0_restingPairs_13 : decode cX0_restingPairs 13 = .ok (.iload_n 1, 1) := by decide +kernel
theorem dX0_restingPairs_14 : decode cX0_restingPairs 14 = .ok (.iload_n 2, 1) := by decide +kernel
theorem dX0_restingPairs_15 : decode cX0_restingPairs 15 = .ok (.iload_n 3, 1) := by decide +kernel
theorem dX0_restingPairs_16 : decode cX0_restingPairs 16 = .ok (.iload 4, 2) := by decide +kernel
theorem dX0_restingPairs_18 : decode cX0_restingPairs 18 = .ok (.iload 6, 2) := by decide +kernel
theorem dX0_restingPairs_20 : decode cX0_restingPairs 20 = .ok (.iconst 0, 1) := by decide +kernel
theorem dX0_restingPairs_21 : decode cX0_restingPairs 21 = .ok (.invokevirtual 143, 3) := by decide +kernel
theorem dX0_restingPairs_24 : decode cX0_restingPairs 24 = .ok (.aload_n 0, 1) := by decide +kernel
theorem dX0_restingPairs_25 : decode cX0_restingPairs 25 = .ok (.iload_n 1, 1) := by decide +kernel
theorem dX0_restingPairs_26 : decode cX0_restingPairs 26 = .ok (.iload_n 2, 1) := by decide +kernel
theorem dX0_restingPairs_27 : decode cX0_restingPairs 27 = .ok (.iload_n 3, 1) := by decide +kernel
theorem dX0_restingPairs_28 : decode cX0_restingPairs 28 = .ok (.iload 4, 2) := by decide +kernel
theorem dX0_restingPairs_30 : decode cX0_restingPairs 30 = .ok (.iload 6, 2) := by decide +kernel
theorem dX0_restingPairs_32 : decode cX0_restingPairs 32 = .ok (.iconst 1, 1) := by decide +kernel
theorem dX0_restingPairs_33 : decode cX0_restingPairs 33 = .ok (.ixor, 1) := by decide +kernel
theorem dX0_restingPairs_34 : decode cX0_restingPairs 34 = .ok (.iconst 0, 1) := by decide +kernel
theorem dX0_restingPairs_35 : decode cX0_restingPairs 35 = .ok (.invokevirtual 143, 3) := by decide +kernel
theorem dX0_restingPairs_38 : decode cX0_restingPairs 38 = .ok (.if_icmp .lt 7, 3) := by decide +kernel
theorem dX0_restingPairs_41 : decode cX0_restingPairs 41 = .ok (.iconst 1, 1) := by decide +kernel
theorem dX0_restingPairs_42 : decode cX0_restingPairs 42 = .ok (.goto 4, 3) := by decide +kernel
theorem dX0_restingPairs_45 : decode cX0_restingPairs 45 = .ok (.iconst 0, 1) := by decide +kernel
theorem dX0_restingPairs_46 : decode cX0_restingPairs 46 = .ok (.istore 7, 2) := by decide +kernel
theorem dX0_restingPairs_48 : decode cX0_restingPairs 48 = .ok (.aload_n 0, 1) := by decide +kernel
theorem dX0_restingPairs_49 : decode cX0_restingPairs 49 = .ok (.iload_n 1, 1) := by decide +kernel
theorem dX0_restingPairs_50 : decode cX0_restingPairs 50 = .ok (.iload_n 2, 1) := by decide +kernel
theorem dX0_restingPairs_51 : decode cX0_restingPairs 51 = .ok (.iload_n 3, 1) := by decide +kernel
theorem dX0_restingPairs_52 : decode cX0_restingPairs 52 = .ok (.iload 4, 2) := by decide +kernel
theorem dX0_restingPairs_54 : decode cX0_restingPairs 54 = .ok (.iload 6, 2) := by decide +kernel
theorem dX0_restingPairs_56 : decode cX0_restingPairs 56 = .ok (.iconst 1, 1) := by decide +kernel
theorem dX0_restingPairs_57 : decode cX0_restingPairs 57 = .ok (.invokevirtual 143, 3) := by decide +kernel
theorem dX0_restingPairs_60 : decode cX0_restingPairs 60 = .ok (.aload_n 0, 1) := by decide +kernel
theorem dX0_restingPairs_61 : decode cX0_restingPairs 61 = .ok (.iload_n 1, 1) := by decide +kernel
theorem dX0_restingPairs_62 : decode cX0_restingPairs 62 = .ok (.iload_n 2, 1) := by decide +kernel
theorem dX0_restingPairs_63 : decode cX0_restingPairs 63 = .ok (.iload_n 3, 1) := by decide +kernel
theorem dX0_restingPairs_64 : decode cX0_restingPairs 64 = .ok (.iload 4, 2) := by decide +kernel
theorem dX0_restingPairs_66 : decode cX0_restingPairs 66 = .ok (.iload 6, 2) := by decide +kernel
theorem dX0_restingPairs_68 : decode cX0_restingPairs 68 = .ok (.iconst 2, 1) := by decide +kernel
theorem dX0_restingPairs_69 : decode cX0_restingPairs 69 = .ok (.ixor, 1) := by decide +kernel
theorem dX0_restingPairs_70 : decode cX0_restingPairs 70 = .ok (.iconst 1, 1) := by decide +kernel
theorem dX0_restingPairs_71 : decode cX0_restingPairs 71 = .ok (.invokevirtual 143, 3) := by decide +kernel
theorem dX0_restingPairs_74 : decode cX0_restingPairs 74 = .ok (.if_icmp .lt 7, 3) := by decide +kernel
theorem dX0_restingPairs_77 : decode cX0_restingPairs 77 = .ok (.iconst 1, 1) := by decide +kernel
theorem dX0_restingPairs_78 : decode cX0_restingPairs 78 = .ok (.goto 4, 3) := by decide +kernel
theorem dX0_restingPairs_81 : decode cX0_restingPairs 81 = .ok (.iconst 0, 1) := by decide +kernel
theorem dX0_restingPairs_82 : decode cX0_restingPairs 82 = .ok (.istore 8, 2) := by decide +kernel
theorem dX0_restingPairs_84 : decode cX0_restingPairs 84 = .ok (.iload 7, 2) := by decide +kernel
theorem dX0_restingPairs_86 : decode cX0_restingPairs 86 = .ok (.ifCond .eq 17, 3) := by decide +kernel
theorem dX0_restingPairs_89 : decode cX0_restingPairs 89 = .ok (.iload 8, 2) := by decide +kernel
theorem dX0_restingPairs_91 : decode cX0_restingPairs 91 = .ok (.ifCond .eq 12, 3) := by decide +kernel
theorem dX0_restingPairs_94 : decode cX0_restingPairs 94 = .ok (.iload 5, 2) := by decide +kernel
theorem dX0_restingPairs_96 : decode cX0_restingPairs 96 = .ok (.iconst 1, 1) := by decide +kernel
theorem dX0_restingPairs_97 : decode cX0_restingPairs 97 = .ok (.iload 6, 2) := by decide +kernel
theorem dX0_restingPairs_99 : decode cX0_restingPairs 99 = .ok (.ishl, 1) := by decide +kernel
theorem dX0_restingPairs_100 : decode cX0_restingPairs 100 = .ok (.ior, 1) := by decide +kernel
theorem dX0_restingPairs_101 : decode cX0_restingPairs 101 = .ok (.istore 5, 2) := by decide +kernel
theorem dX0_restingPairs_103 : decode cX0_restingPairs 103 = .ok (.iinc 6 1, 3) := by decide +kernel
theorem dX0_restingPairs_106 : decode cX0_restingPairs 106 = .ok (.goto (-100), 3) := by decide +kernel
theorem dX0_restingPairs_109 : decode cX0_restingPairs 109 = .ok (.iload 5, 2) := by decide +kernel
theorem dX0_restingPairs_111 : decode cX0_restingPairs 111 = .ok (.ireturn, 1) := by decide +kernel
theorem dX0_hostGets_0 : decode cX0_hostGets 0 = .ok (.iload 5, 2) := by decide +kernel
theorem dX0_hostGets_2 : decode cX0_hostGets 2 = .ok (.iconst 1, 1) := by decide +kernel
theorem dX0_hostGets_3 : decode cX0_hostGets 3 = .ok (.iand, 1) := by decide +kernel
theorem dX0_hostGets_4 : decode cX0_hostGets 4 = .ok (.iload_n 1, 1) := by decide +kernel
theorem dX0_hostGets_5 : decode cX0_hostGets 5 = .ok (.ishl, 1) := by decide +kernel
theorem dX0_hostGets_6 : decode cX0_hostGets 6 = .ok (.iload 5, 2) := by decide +kernel
theorem dX0_hostGets_8 : decode cX0_hostGets 8 = .ok (.iconst 1, 1) := by decide +kernel
theorem dX0_hostGets_9 : decode cX0_hostGets 9 = .ok (.ishr, 1) := by decide +kernel
theorem dX0_hostGets_10 : decode cX0_hostGets 10 = .ok (.iconst 1, 1) := by decide +kernel
theorem dX0_hostGets_11 : decode cX0_hostGets 11 = .ok (.iand, 1) := by decide +kernel
theorem dX0_hostGets_12 : decode cX0_hostGets 12 = .ok (.iload_n 2, 1) := by decide +kernel
theorem dX0_hostGets_13 : decode cX0_hostGets 13 = .ok (.ishl, 1) := by decide +kernel
theorem dX0_hostGets_14 : decode cX0_hostGets 14 = .ok (.ior, 1) := by decide +kernel
theorem dX0_hostGets_15 : decode cX0_hostGets 15 = .ok (.istore 7, 2) := by decide +kernel
theorem dX0_hostGets_17 : decode cX0_hostGets 17 = .ok (.aload_n 0, 1) := by decide +kernel
theorem dX0_hostGets_18 : decode cX0_hostGets 18 = .ok (.iload_n 3, 1) := by decide +kernel
theorem dX0_hostGets_19 : decode cX0_hostGets 19 = .ok (.iload 4, 2) := by decide +kernel
theorem dX0_hostGets_21 : decode cX0_hostGets 21 = .ok (.iload 7, 2) := by decide +kernel
theorem dX0_hostGets_23 : decode cX0_hostGets 23 = .ok (.aload_n 0, 1) := by decide +kernel
theorem dX0_hostGets_24 : decode cX0_hostGets 24 = .ok (.getfield 25, 3) := by decide +kernel
theorem dX0_hostGets_27 : decode cX0_hostGets 27 = .ok (.getfield 120, 3) := by decide +kernel
theorem dX0_hostGets_30 : decode cX0_hostGets 30 = .ok (.invokevirtual 123, 3) := by decide +kernel
theorem dX0_hostGets_33 : decode cX0_hostGets 33 = .ok (.ifCond .eq 7, 3) := by decide +kernel
theorem dX0_hostGets_36 : decode cX0_hostGets 36 = .ok (.iconst 4, 1) := by decide +kernel
theorem dX0_hostGets_37 : decode cX0_hostGets 37 = .ok (.goto 4, 3) := by decide +kernel
theorem dX0_hostGets_40 : decode cX0_hostGets 40 = .ok (.iconst 0, 1) := by decide +kernel
theorem dX0_hostGets_41 : decode cX0_hostGets 41 = .ok (.istore 8, 2) := by decide +kernel
theorem dX0_hostGets_43 : decode cX0_hostGets 43 = .ok (.iload 5, 2) := by decide +kernel
theorem dX0_hostGets_45 : decode cX0_hostGets 45 = .ok (.iload 6, 2) := by decide +kernel
theorem dX0_hostGets_47 : decode cX0_hostGets 47 = .ok (.ishr, 1) := by decide +kernel
theorem dX0_hostGets_48 : decode cX0_hostGets 48 = .ok (.iconst 1, 1) := by decide +kernel
theorem dX0_hostGets_49 : decode cX0_hostGets 49 = .ok (.iand, 1) := by decide +kernel
theorem dX0_hostGets_50 : decode cX0_hostGets 50 = .ok (.iconst 1, 1) := by decide +kernel
theorem dX0_hostGets_51 : decode cX0_hostGets 51 = .ok (.if_icmp .ne 31, 3) := by decide +kernel
theorem dX0_hostGets_54 : decode cX0_hostGets 54 = .ok (.iload 8, 2) := by decide +kernel
theorem dX0_hostGets_56 : decode cX0_hostGets 56 = .ok (.iconst 1, 1) := by decide +kernel
theorem dX0_hostGets_57 : decode cX0_hostGets 57 = .ok (.aload_n 0, 1) := by decide +kernel
theorem dX0_hostGets_58 : decode cX0_hostGets 58 = .ok (.iload 6, 2) := by decide +kernel
theorem dX0_hostGets_60 : decode cX0_hostGets 60 = .ok (.ifCond .ne 7, 3) := by decide +kernel
theorem dX0_hostGets_63 : decode cX0_hostGets 63 = .ok (.iload_n 1, 1) := by decide +kernel
theorem dX0_hostGets_64 : decode cX0_hostGets 64 = .ok (.goto 4, 3) := by decide +kernel
theorem dX0_hostGets_67 : decode cX0_hostGets 67 = .ok (.iload_n 2, 1) := by decide +kernel
theorem dX0_hostGets_68 : decode cX0_hostGets 68 = .ok (.aload_n 0, 1) := by decide +kernel
theorem dX0_hostGets_69 : decode cX0_hostGets 69 = .ok (.getfield 25, 3) := by decide +kernel
theorem dX0_hostGets_72 : decode cX0_hostGets 72 = .ok (.getfield 120, 3) := by decide +kernel
theorem dX0_hostGets_75 : decode cX0_hostGets 75 = .ok (.invokevirtual 103, 3) := by decide +kernel
theorem dX0_hostGets_78 : decode cX0_hostGets 78 = .ok (.iadd, 1) := by decide +kernel
theorem dX0_hostGets_79 : decode cX0_hostGets 79 = .ok (.isub, 1) := by decide +kernel
theorem dX0_hostGets_80 : decode cX0_hostGets 80 = .ok (.istore 8, 2) := by decide +kernel
theorem dX0_hostGets_82 : decode cX0_hostGets 82 = .ok (.iload 8, 2) := by decide +kernel
theorem dX0_hostGets_84 : decode cX0_hostGets 84 = .ok (.ireturn, 1) := by decide +kernel
theorem dX0_digestOn_0 : decode cX0_digestOn 0 = .ok (.lload_n 1, 1) := by decide +kernel
theorem dX0_digestOn_1 : decode cX0_digestOn 1 = .ok (.lstore_n 3, 1) := by decide +kernel
theorem dX0_digestOn_2 : decode cX0_digestOn 2 = .ok (.iconst 0, 1) := by decide +kernel
theorem dX0_digestOn_3 : decode cX0_digestOn 3 = .ok (.istore 5, 2) := by decide +kernel
theorem dX0_digestOn_5 : decode cX0_digestOn 5 = .ok (.iload 5, 2) := by decide +kernel
theorem dX0_digestOn_7 : decode cX0_digestOn 7 = .ok (.bipush 8, 2) := by decide +kernel
theorem dX0_digestOn_9 : decode cX0_digestOn 9 = .ok (.if_icmp .ge 27, 3) := by decide +kernel
theorem dX0_digestOn_12 : decode cX0_digestOn 12 = .ok (.ldc2_w 147, 3) := by decide +kernel
theorem dX0_digestOn_15 : decode cX0_digestOn 15 = .ok (.lload_n 3, 1) := by decide +kernel
theorem dX0_digestOn_16 : decode cX0_digestOn 16 = .ok (.lmul, 1) := by decide +kernel
theorem dX0_digestOn_17 : decode cX0_digestOn 17 = .ok (.aload_n 0, 1) := by decide +kernel
theorem dX0_digestOn_18 : decode cX0_digestOn 18 = .ok (.getfield 25, 3) := by decide +kernel
theorem dX0_digestOn_21 : decode cX0_digestOn 21 = .ok (.getfield 95, 3) := by decide +kernel
theorem dX0_digestOn_24 : decode cX0_digestOn 24 = .ok (.iload 5, 2) := by decide +kernel
theorem dX0_digestOn_26 : decode cX0_digestOn 26 = .ok (.iaload, 1) := by decide +kernel
theorem dX0_digestOn_27 : decode cX0_digestOn 27 = .ok (.i2l, 1) := by decide +kernel
theorem dX0_digestOn_28 : decode cX0_digestOn 28 = .ok (.ladd, 1) := by decide +kernel
theorem dX0_digestOn_29 : decode cX0_digestOn 29 = .ok (.lstore_n 3, 1) := by decide +kernel
theorem dX0_digestOn_30 : decode cX0_digestOn 30 = .ok (.iinc 5 1, 3) := by decide +kernel
theorem dX0_digestOn_33 : decode cX0_digestOn 33 = .ok (.goto (-28), 3) := by decide +kernel
theorem dX0_digestOn_36 : decode cX0_digestOn 36 = .ok (.ldc2_w 147, 3) := by decide +kernel
theorem dX0_digestOn_39 : decode cX0_digestOn 39 = .ok (.lload_n 3, 1) := by decide +kernel
theorem dX0_digestOn_40 : decode cX0_digestOn 40 = .ok (.lmul, 1) := by decide +kernel
theorem dX0_digestOn_41 : decode cX0_digestOn 41 = .ok (.aload_n 0, 1) := by decide +kernel
theorem dX0_digestOn_42 : decode cX0_digestOn 42 = .ok (.getfield 25, 3) := by decide +kernel
theorem dX0_digestOn_45 : decode cX0_digestOn 45 = .ok (.getfield 149, 3) := by decide +kernel
theorem dX0_digestOn_48 : decode cX0_digestOn 48 = .ok (.i2l, 1) := by decide +kernel
theorem dX0_digestOn_49 : decode cX0_digestOn 49 = .ok (.ladd, 1) := by decide +kernel
theorem dX0_digestOn_50 : decode cX0_digestOn 50 = .ok (.lstore_n 3, 1) := by decide +kernel
theorem dX0_digestOn_51 : decode cX0_digestOn 51 = .ok (.iconst 0, 1) := by decide +kernel
theorem dX0_digestOn_52 : decode cX0_digestOn 52 = .ok (.istore 5, 2) := by decide +kernel
theorem dX0_digestOn_54 : decode cX0_digestOn 54 = .ok (.iload 5, 2) := by decide +kernel
theorem dX0_digestOn_56 : decode cX0_digestOn 56 = .ok (.aload_n 0, 1) := by decide +kernel
theorem dX0_digestOn_57 : decode cX0_digestOn 57 = .ok (.getfield 9, 3) := by decide +kernel
theorem dX0_digestOn_60 : decode cX0_digestOn 60 = .ok (.if_icmp .ge 82, 3) := by decide +kernel
theorem dX0_digestOn_63 : decode cX0_digestOn 63 = .ok (.iload 5, 2) := by decide +kernel
theorem dX0_digestOn_65 : decode cX0_digestOn 65 = .ok (.bipush 6, 2) := by decide +kernel
theorem dX0_digestOn_67 : decode cX0_digestOn 67 = .ok (.if_icmp .ge 75, 3) := by decide +kernel
theorem dX0_digestOn_70 : decode cX0_digestOn 70 = .ok (.ldc2_w 147, 3) := by decide +kernel
theorem dX0_digestOn_73 : decode cX0_digestOn 73 = .ok (.lload_n 3, 1) := by decide +kernel
theorem dX0_digestOn_74 : decode cX0_digestOn 74 = .ok (.lmul, 1) := by decide +kernel
theorem dX0_digestOn_75 : decode cX0_digestOn 75 = .ok (.aload_n 0, 1) := by decide +kernel
theorem dX0_digestOn_76 : decode cX0_digestOn 76 = .ok (.getfield 15, 3) := by decide +kernel
theorem dX0_digestOn_79 : decode cX0_digestOn 79 = .ok (.iload 5, 2) := by decide +kernel
theorem dX0_digestOn_81 : decode cX0_digestOn 81 = .ok (.iaload, 1) := by decide +kernel
theorem dX0_digestOn_82 : decode cX0_digestOn 82 = .ok (.i2l, 1) := by decide +kernel
theorem dX0_digestOn_83 : decode cX0_digestOn 83 = .ok (.ladd, 1) := by decide +kernel
theorem dX0_digestOn_84 : decode cX0_digestOn 84 = .ok (.lstore_n 3, 1) := by decide +kernel
theorem dX0_digestOn_85 : decode cX0_digestOn 85 = .ok (.ldc2_w 147, 3) := by decide +kernel
theorem dX0_digestOn_88 : decode cX0_digestOn 88 = .ok (.lload_n 3, 1) := by decide +kernel
theorem dX0_digestOn_89 : decode cX0_digestOn 89 = .ok (.lmul, 1) := by decide +kernel
theorem dX0_digestOn_90 : decode cX0_digestOn 90 = .ok (.aload_n 0, 1) := by decide +kernel
theorem dX0_digestOn_91 : decode cX0_digestOn 91 = .ok (.getfield 19, 3) := by decide +kernel
theorem dX0_digestOn_94 : decode cX0_digestOn 94 = .ok (.iload 5, 2) := by decide +kernel
theorem dX0_digestOn_96 : decode cX0_digestOn 96 = .ok (.iaload, 1) := by decide +kernel
theorem dX0_digestOn_97 : decode cX0_digestOn 97 = .ok (.i2l, 1) := by decide +kernel
theorem dX0_digestOn_98 : decode cX0_digestOn 98 = .ok (.ladd, 1) := by decide +kernel
theorem dX0_digestOn_99 : decode cX0_digestOn 99 = .ok (.lstore_n 3, 1) := by decide +kernel
theorem dX0_digestOn_100 : decode cX0_digestOn 100 = .ok (.ldc2_w 147, 3) := by decide +kernel
theorem dX0_digestOn_103 : decode cX0_digestOn 103 = .ok (.lload_n 3, 1) := by decide +kernel
theorem dX0_digestOn_104 : decode cX0_digestOn 104 = .ok (.lmul, 1) := by decide +kernel
theorem dX0_digestOn_105 : decode cX0_digestOn 105 = .ok (.aload_n 0, 1) := by decide +kernel
theorem dX0_digestOn_106 : decode cX0_digestOn 106 = .ok (.getfield 25, 3) := by decide +kernel
theorem dX0_digestOn_109 : decode cX0_digestOn 109 = .ok (.getfield 88, 3) := by decide +kernel
theorem dX0_digestOn_112 : decode cX0_digestOn 112 = .ok (.iload 5, 2) := by decide +kernel
theorem dX0_digestOn_114 : decode cX0_digestOn 114 = .ok (.iaload, 1) := by decide +kernel
theorem dX0_digestOn_115 : decode cX0_digestOn 115 = .ok (.i2l, 1) := by decide +kernel
theorem dX0_digestOn_116 : decode cX0_digestOn 116 = .ok (.ladd, 1) := by decide +kernel
theorem dX0_digestOn_117 : decode cX0_digestOn 117 = .ok (.lstore_n 3, 1) := by decide +kernel
theorem dX0_digestOn_118 : decode cX0_digestOn 118 = .ok (.ldc2_w 147, 3) := by decide +kernel
theorem dX0_digestOn_121 : decode cX0_digestOn 121 = .ok (.lload_n 3, 1) := by decide +kernel
theorem dX0_digestOn_122 : decode cX0_digestOn 122 = .ok (.lmul, 1) := by decide +kernel
theorem dX0_digestOn_123 : decode cX0_digestOn 123 = .ok (.aload_n 0, 1) := by decide +kernel
theorem dX0_digestOn_124 : decode cX0_digestOn 124 = .ok (.getfield 25, 3) := by decide +kernel
theorem dX0_digestOn_127 : decode cX0_digestOn 127 = .ok (.getfield 134, 3) := by decide +kernel
theorem dX0_digestOn_130 : decode cX0_digestOn 130 = .ok (.iload 5, 2) := by decide +kernel
theorem dX0_digestOn_132 : decode cX0_digestOn 132 = .ok (.iaload, 1) := by decide +kernel
theorem dX0_digestOn_133 : decode cX0_digestOn 133 = .ok (.i2l, 1) := by decide +kernel
theorem dX0_digestOn_134 : decode cX0_digestOn 134 = .ok (.ladd, 1) := by decide +kernel
theorem dX0_digestOn_135 : decode cX0_digestOn 135 = .ok (.lstore_n 3, 1) := by decide +kernel
theorem dX0_digestOn_136 : decode cX0_digestOn 136 = .ok (.iinc 5 1, 3) := by decide +kernel
theorem dX0_digestOn_139 : decode cX0_digestOn 139 = .ok (.goto (-85), 3) := by decide +kernel
theorem dX0_digestOn_142 : decode cX0_digestOn 142 = .ok (.aload_n 0, 1) := by decide +kernel
theorem dX0_digestOn_143 : decode cX0_digestOn 143 = .ok (.getfield 39, 3) := by decide +kernel
theorem dX0_digestOn_146 : decode cX0_digestOn 146 = .ok (.lload_n 3, 1) := by decide +kernel
theorem dX0_digestOn_147 : decode cX0_digestOn 147 = .ok (.iconst 3, 1) := by decide +kernel
theorem dX0_digestOn_148 : decode cX0_digestOn 148 = .ok (.invokevirtual 152, 3) := by decide +kernel
theorem dX0_digestOn_151 : decode cX0_digestOn 151 = .ok (.lstore_n 3, 1) := by decide +kernel
theorem dX0_digestOn_152 : decode cX0_digestOn 152 = .ok (.aload_n 0, 1) := by decide +kernel
theorem dX0_digestOn_153 : decode cX0_digestOn 153 = .ok (.getfield 43, 3) := by decide +kernel
theorem dX0_digestOn_156 : decode cX0_digestOn 156 = .ok (.lload_n 3, 1) := by decide +kernel
theorem dX0_digestOn_157 : decode cX0_digestOn 157 = .ok (.iconst 4, 1) := by decide +kernel
theorem dX0_digestOn_158 : decode cX0_digestOn 158 = .ok (.invokevirtual 152, 3) := by decide +kernel
theorem dX0_digestOn_161 : decode cX0_digestOn 161 = .ok (.lstore_n 3, 1) := by decide +kernel
theorem dX0_digestOn_162 : decode cX0_digestOn 162 = .ok (.aload_n 0, 1) := by decide +kernel
theorem dX0_digestOn_163 : decode cX0_digestOn 163 = .ok (.getfield 46, 3) := by decide +kernel
theorem dX0_digestOn_166 : decode cX0_digestOn 166 = .ok (.lload_n 3, 1) := by decide +kernel
theorem dX0_digestOn_167 : decode cX0_digestOn 167 = .ok (.iconst 4, 1) := by decide +kernel
theorem dX0_digestOn_168 : decode cX0_digestOn 168 = .ok (.invokevirtual 152, 3) := by decide +kernel
theorem dX0_digestOn_171 : decode cX0_digestOn 171 = .ok (.lreturn, 1) := by decide +kernel
theorem dX1_init_0 : decode cX1_init 0 = .ok (.aload_n 0, 1) := by decide +kernel
theorem dX1_init_1 : decode cX1_init 1 = .ok (.invokespecial 3, 3) := by decide +kernel
theorem dX1_init_4 : decode cX1_init 4 = .ok (.return_, 1) := by decide +kernel
theorem dX1_fitting_0 : decode cX1_fitting 0 = .ok (.iconst 0, 1) := by decide +kernel
theorem dX1_fitting_1 : decode cX1_fitting 1 = .ok (.istore_n 3, 1) := by decide +kernel
theorem dX1_fitting_2 : decode cX1_fitting 2 = .ok (.iconst 0, 1) := by decide +kernel
theorem dX1_fitting_3 : decode cX1_fitting 3 = .ok (.istore 4, 2) := by decide +kernel
theorem dX1_fitting_5 : decode cX1_fitting 5 = .ok (.iload 4, 2) := by decide +kernel
theorem dX1_fitting_7 : decode cX1_fitting 7 = .ok (.bipush 6, 2) := by decide +kernel
theorem dX1_fitting_9 : decode cX1_fitting 9 = .ok (.if_icmp .ge 27, 3) := by decide +kernel
theorem dX1_fitting_12 : decode cX1_fitting 12 = .ok (.aload_n 0, 1) := by decide +kernel
theorem dX1_fitting_13 : decode cX1_fitting 13 = .ok (.iload 4, 2) := by decide +kernel
theorem dX1_fitting_15 : decode cX1_fitting 15 = .ok (.aload_n 1, 1) := by decide +kernel
theorem dX1_fitting_16 : decode cX1_fitting 16 = .ok (.iload_n 2, 1) := by decide +kernel
theorem dX1_fitting_17 : decode cX1_fitting 17 = .ok (.invokevirtual 9, 3) := by decide +kernel
theorem dX1_fitting_20 : decode cX1_fitting 20 = .ok (.ifCond .eq 10, 3) := by decide +kernel
theorem dX1_fitting_23 : decode cX1_fitting 23 = .ok (.iload_n 3, 1) := by decide +kernel
theorem dX1_fitting_24 : decode cX1_fitting 24 = .ok (.iconst 1, 1) := by decide +kernel
theorem dX1_fitting_25 : decode cX1_fitting 25 = .ok (.iload 4, 2) := by decide +kernel
theorem dX1_fitting_27 : decode cX1_fitting 27 = .ok (.ishl, 1) := by decide +kernel
theorem dX1_fitting_28 : decode cX1_fitting 28 = .ok (.ior, 1) := by decide +kernel
theorem dX1_fitting_29 : decode cX1_fitting 29 = .ok (.istore_n 3, 1) := by decide +kernel
theorem dX1_fitting_30 : decode cX1_fitting 30 = .ok (.iinc 4 1, 3) := by decide +kernel
theorem dX1_fitting_33 : decode cX1_fitting 33 = .ok (.goto (-28), 3) := by decide +kernel
theorem dX1_fitting_36 : decode cX1_fitting 36 = .ok (.iload_n 3, 1) := by decide +kernel
theorem dX1_fitting_37 : decode cX1_fitting 37 = .ok (.ireturn, 1) := by decide +kernel
theorem dX1_nextQuestion_0 : decode cX1_nextQuestion 0 = .ok (.aload_n 0, 1) := by decide +kernel
theorem dX1_nextQuestion_1 : decode cX1_nextQuestion 1 = .ok (.aload_n 1, 1) := by decide +kernel
theorem dX1_nextQuestion_2 : decode cX1_nextQuestion 2 = .ok (.iload_n 2, 1) := by decide +kernel
theorem dX1_nextQuestion_3 : decode cX1_nextQuestion 3 = .ok (.invokevirtual 15, 3) := by decide +kernel
theorem dX1_nextQuestion_6 : decode cX1_nextQuestion 6 = .ok (.istore_n 3, 1) := by decide +kernel
theorem dX1_nextQuestion_7 : decode cX1_nextQuestion 7 = .ok (.iload_n 3, 1) := by decide +kernel
theorem dX1_nextQuestion_8 : decode cX1_nextQuestion 8 = .ok (.ifCond .ne 7, 3) := by decide +kernel
theorem dX1_nextQuestion_11 : decode cX1_nextQuestion 11 = .ok (.iconst (-1), 1) := by decide +kernel
theorem dX1_nextQuestion_12 : decode cX1_nextQuestion 12 = .ok (.goto 8, 3) := by decide +kernel
theorem dX1_nextQuestion_15 : decode cX1_nextQuestion 15 = .ok (.aload_n 0, 1) := by decide +kernel
theorem dX1_nextQuestion_16 : decode cX1_nextQuestion 16 = .ok (.iload_n 3, 1) := by decide +kernel
theorem dX1_nextQuestion_17 : decode cX1_nextQuestion 17 = .ok (.invokevirtual 19, 3) := by decide +kernel
theorem dX1_nextQuestion_20 : decode cX1_nextQuestion 20 = .ok (.ireturn, 1) := by decide +kernel
theorem dX1_fits_0 : decode cX1_fits 0 = .ok (.iconst 0, 1) := by decide +kernel
theorem dX1_fits_1 : decode cX1_fits 1 = .ok (.istore 4, 2) := by decide +kernel
theorem dX1_fits_3 : decode cX1_fits 3 = .ok (.iload 4, 2) := by decide +kernel
theorem dX1_fits_5 : decode cX1_fits 5 = .ok (.aload_n 2, 1) := by decide +kernel
theorem dX1_fits_6 : decode cX1_fits 6 = .ok (.getfield 23, 3) := by decide +kernel
theorem dX1_fits_9 : decode cX1_fits 9 = .ok (.if_icmp .ge 63, 3) := by decide +kernel
theorem dX1_fits_12 : decode cX1_fits 12 = .ok (.aload_n 2, 1) := by decide +kernel
theorem dX1_fits_13 : decode cX1_fits 13 = .ok (.iload 4, 2) := by decide +kernel
theorem dX1_fits_15 : decode cX1_fits 15 = .ok (.iconst 0, 1) := by decide +kernel
theorem dX1_fits_16 : decode cX1_fits 16 = .ok (.invokevirtual 29, 3) := by decide +kernel
theorem dX1_fits_19 : decode cX1_fits 19 = .ok (.iload_n 3, 1) := by decide +kernel
theorem dX1_fits_20 : decode cX1_fits 20 = .ok (.if_icmp .ne 7, 3) := by decide +kernel
theorem dX1_fits_23 : decode cX1_fits 23 = .ok (.iconst 1, 1) := by decide +kernel
theorem dX1_fits_24 : decode cX1_fits 24 = .ok (.goto 4, 3) := by decide +kernel
theorem dX1_fits_27 : decode cX1_fits 27 = .ok (.iconst 0, 1) := by decide +kernel
theorem dX1_fits_28 : decode cX1_fits 28 = .ok (.istore 5, 2) := by decide +kernel
theorem dX1_fits_30 : decode cX1_fits 30 = .ok (.iload 5, 2) := by decide +kernel
theorem dX1_fits_32 : decode cX1_fits 32 = .ok (.ifCond .eq 34, 3) := by decide +kernel
theorem dX1_fits_35 : decode cX1_fits 35 = .ok (.aload_n 0, 1) := by decide +kernel
theorem dX1_fits_36 : decode cX1_fits 36 = .ok (.iload_n 1, 1) := by decide +kernel
theorem dX1_fits_37 : decode cX1_fits 37 = .ok (.aload_n 2, 1) := by decide +kernel
theorem dX1_fits_38 : decode cX1_fits 38 = .ok (.iload 4, 2) := by decide +kernel
theorem dX1_fits_40 : decode cX1_fits 40 = .ok (.iconst 1, 1) := by decide +kernel
theorem dX1_fits_41 : decode cX1_fits 41 = .ok (.invokevirtual 29, 3) := by decide +kernel
theorem dX1_fits_44 : decode cX1_fits 44 = .ok (.aload_n 2, 1) := by decide +kernel
theorem dX1_fits_45 : decode cX1_fits 45 = .ok (.iload 4, 2) := by decide +kernel
theorem dX1_fits_47 : decode cX1_fits 47 = .ok (.iconst 2, 1) := by decide +kernel
theorem dX1_fits_48 : decode cX1_fits 48 = .ok (.invokevirtual 29, 3) := by decide +kernel
theorem dX1_fits_51 : decode cX1_fits 51 = .ok (.invokevirtual 33, 3) := by decide +kernel
theorem dX1_fits_54 : decode cX1_fits 54 = .ok (.aload_n 2, 1) := by decide +kernel
theorem dX1_fits_55 : decode cX1_fits 55 = .ok (.iload 4, 2) := by decide +kernel
theorem dX1_fits_57 : decode cX1_fits 57 = .ok (.iconst 3, 1) := by decide +kernel
theorem dX1_fits_58 : decode cX1_fits 58 = .ok (.invokevirtual 29, 3) := by decide +kernel
theorem dX1_fits_61 : decode cX1_fits 61 = .ok (.if_icmp .eq 5, 3) := by decide +kernel
theorem dX1_fits_64 : decode cX1_fits 64 = .ok (.iconst 0, 1) := by decide +kernel
theorem dX1_fits_65 : decode cX1_fits 65 = .ok (.ireturn, 1) := by decide +kernel
theorem dX1_fits_66 : decode cX1_fits 66 = .ok (.iinc 4 1, 3) := by decide +kernel
theorem dX1_fits_69 : decode cX1_fits 69 = .ok (.goto (-66), 3) := by decide +kernel
theorem dX1_fits_72 : decode cX1_fits 72 = .ok (.iconst 1, 1) := by decide +kernel
theorem dX1_fits_73 : decode cX1_fits 73 = .ok (.ireturn, 1) := by decide +kernel
theorem dX1_mostAlike_0 : decode cX1_mostAlike 0 = .ok (.iconst 0, 1) := by decide +kernel
theorem dX1_mostAlike_1 : decode cX1_mostAlike 1 = .ok (.istore 4, 2) := by decide +kernel
theorem dX1_mostAlike_3 : decode cX1_mostAlike 3 = .ok (.iconst 0, 1) := by decide +kernel
theorem dX1_mostAlike_4 : decode cX1_mostAlike 4 = .ok (.istore 5, 2) := by decide +kernel
theorem dX1_mostAlike_6 : decode cX1_mostAlike 6 = .ok (.iload 5, 2) := by decide +kernel
theorem dX1_mostAlike_8 : decode cX1_mostAlike 8 = .ok (.bipush 6, 2) := by decide +kernel
theorem dX1_mostAlike_10 : decode cX1_mostAlike 10 = .ok (.if_icmp .ge 41, 3) := by decide +kernel
theorem dX1_mostAlike_13 : decode cX1_mostAlike 13 = .ok (.iload_n 1, 1) := by decide +kernel
theorem dX1_mostAlike_14 : decode cX1_mostAlike 14 = .ok (.iload 5, 2) := by decide +kernel
theorem dX1_mostAlike_16 : decode cX1_mostAlike 16 = .ok (.ishr, 1) := by decide +kernel
theorem dX1_mostAlike_17 : decode cX1_mostAlike 17 = .ok (.iconst 1, 1) := by decide +kernel
theorem dX1_mostAlike_18 : decode cX1_mostAlike 18 = .ok (.iand, 1) := by decide +kernel
theorem dX1_mostAlike_19 : decode cX1_mostAlike 19 = .ok (.iconst 1, 1) := by decide +kernel
theorem dX1_mostAlike_20 : decode cX1_mostAlike 20 = .ok (.if_icmp .ne 25, 3) := by decide +kernel
theorem dX1_mostAlike_23 : decode cX1_mostAlike 23 = .ok (.iload 4, 2) := by decide +kernel
theorem dX1_mostAlike_25 : decode cX1_mostAlike 25 = .ok (.aload_n 0, 1) := by decide +kernel
theorem dX1_mostAlike_26 : decode cX1_mostAlike 26 = .ok (.iload_n 1, 1) := by decide +kernel
theorem dX1_mostAlike_27 : decode cX1_mostAlike 27 = .ok (.aload_n 0, 1) := by decide +kernel
theorem dX1_mostAlike_28 : decode cX1_mostAlike 28 = .ok (.iload 5, 2) := by decide +kernel
theorem dX1_mostAlike_30 : decode cX1_mostAlike 30 = .ok (.iload_n 2, 1) := by decide +kernel
theorem dX1_mostAlike_31 : decode cX1_mostAlike 31 = .ok (.iload_n 3, 1) := by decide +kernel
theorem dX1_mostAlike_32 : decode cX1_mostAlike 32 = .ok (.invokevirtual 33, 3) := by decide +kernel
theorem dX1_mostAlike_35 : decode cX1_mostAlike 35 = .ok (.iload_n 2, 1) := by decide +kernel
theorem dX1_mostAlike_36 : decode cX1_mostAlike 36 = .ok (.iload_n 3, 1) := by decide +kernel
theorem dX1_mostAlike_37 : decode cX1_mostAlike 37 = .ok (.invokevirtual 37, 3) := by decide +kernel
theorem dX1_mostAlike_40 : decode cX1_mostAlike 40 = .ok (.invokestatic 41, 3) := by decide +kernel
theorem dX1_mostAlike_43 : decode cX1_mostAlike 43 = .ok (.istore 4, 2) := by decide +kernel
theorem dX1_mostAlike_45 : decode cX1_mostAlike 45 = .ok (.iinc 5 1, 3) := by decide +kernel
theorem dX1_mostAlike_48 : decode cX1_mostAlike 48 = .ok (.goto (-42), 3) := by decide +kernel
theorem dX1_mostAlike_51 : decode cX1_mostAlike 51 = .ok (.iload 4, 2) := by decide +kernel
theorem dX1_mostAlike_53 : decode cX1_mostAlike 53 = .ok (.ireturn, 1) := by decide +kernel
theorem dX1_alike_0 : decode cX1_alike 0 = .ok (.iconst 0, 1) := by decide +kernel
theorem dX1_alike_1 : decode cX1_alike 1 = .ok (.istore 5, 2) := by decide +kernel
theorem dX1_alike_3 : decode cX1_alike 3 = .ok (.iconst 0, 1) := by decide +kernel
theorem dX1_alike_4 : decode cX1_alike 4 = .ok (.istore 6, 2) := by decide +kernel
theorem dX1_alike_6 : decode cX1_alike 6 = .ok (.iload 6, 2) := by decide +kernel
theorem dX1_alike_8 : decode cX1_alike 8 = .ok (.bipush 6, 2) := by decide +kernel
theorem dX1_alike_10 : decode cX1_alike 10 = .ok (.if_icmp .ge 35, 3) := by decide +kernel
theorem dX1_alike_13 : decode cX1_alike 13 = .ok (.iload_n 1, 1) := by decide +kernel
theorem dX1_alike_14 : decode cX1_alike 14 = .ok (.iload 6, 2) := by decide +kernel
theorem dX1_alike_16 : decode cX1_alike 16 = .ok (.ishr, 1) := by decide +kernel
theorem dX1_alike_17 : decode cX1_alike 17 = .ok (.iconst 1, 1) := by decide +kernel
theorem dX1_alike_18 : decode cX1_alike 18 = .ok (.iand, 1) := by decide +kernel
theorem dX1_alike_19 : decode cX1_alike 19 = .ok (.iconst 1, 1) := by decide +kernel
theorem dX1_alike_20 : decode cX1_alike 20 = .ok (.if_icmp .ne 19, 3) := by decide +kernel
theorem dX1_alike_23 : decode cX1_alike 23 = .ok (.aload_n 0, 1) := by decide +kernel
theorem dX1_alike_24 : decode cX1_alike 24 = .ok (.iload 6, 2) := by decide +kernel
theorem dX1_alike_26 : decode cX1_alike 26 = .ok (.iload_n 3, 1) := by decide +kernel
theorem dX1_alike_27 : decode cX1_alike 27 = .ok (.iload 4, 2) := by decide +kernel
theorem dX1_alike_29 : decode cX1_alike 29 = .ok (.invokevirtual 33, 3) := by decide +kernel
theorem dX1_alike_32 : decode cX1_alike 32 = .ok (.iload_n 2, 1) := by decide +kernel
theorem dX1_alike_33 : decode cX1_alike 33 = .ok (.if_icmp .ne 6, 3) := by decide +kernel
theorem dX1_alike_36 : decode cX1_alike 36 = .ok (.iinc 5 1, 3) := by decide +kernel
theorem dX1_alike_39 : decode cX1_alike 39 = .ok (.iinc 6 1, 3) := by decide +kernel
theorem dX1_alike_42 : decode cX1_alike 42 = .ok (.goto (-36), 3) := by decide +kernel
theorem dX1_alike_45 : decode cX1_alike 45 = .ok (.iload 5, 2) := by decide +kernel
theorem dX1_alike_47 : decode cX1_alike 47 = .ok (.ireturn, 1) := by decide +kernel
theorem dX2_init_0 : decode cX2_init 0 = .ok (.aload_n 0, 1) := by decide +kernel
theorem dX2_init_1 : decode cX2_init 1 = .ok (.invokespecial 3, 3) := by decide +kernel
theorem dX2_init_4 : decode cX2_init 4 = .ok (.return_, 1) := by decide +kernel
theorem dX2_answer_0 : decode cX2_answer 0 = .ok (.iconst 1, 1) := by decide +kernel
theorem dX2_answer_1 : decode cX2_answer 1 = .ok (.istore 4, 2) := by decide +kernel
theorem dX2_answer_3 : decode cX2_answer 3 = .ok (.iload 4, 2) := by decide +kernel
theorem dX2_answer_5 : decode cX2_answer 5 = .ok (.iconst 1, 1) := by decide +kernel
theorem dX2_answer_6 : decode cX2_answer 6 = .ok (.iadd, 1) := by decide +kernel
theorem dX2_answer_7 : decode cX2_answer 7 = .ok (.istore 5, 2) := by decide +kernel
theorem dX2_answer_9 : decode cX2_answer 9 = .ok (.iload_n 1, 1) := by decide +kernel
theorem dX2_answer_10 : decode cX2_answer 10 = .ok (.tableswitch 82 0 4 #[34, 37, 40, 53, 68], 34) := by decide +kernel
theorem dX2_answer_44 : decode cX2_answer 44 = .ok (.iload 4, 2) := by decide +kernel
theorem dX2_answer_46 : decode cX2_answer 46 = .ok (.ireturn, 1) := by decide +kernel
theorem dX2_answer_47 : decode cX2_answer 47 = .ok (.iload 5, 2) := by decide +kernel
theorem dX2_answer_49 : decode cX2_answer 49 = .ok (.ireturn, 1) := by decide +kernel
theorem dX2_answer_50 : decode cX2_answer 50 = .ok (.iload_n 3, 1) := by decide +kernel
theorem dX2_answer_51 : decode cX2_answer 51 = .ok (.bipush 18, 2) := by decide +kernel
theorem dX2_answer_53 : decode cX2_answer 53 = .ok (.if_icmp .lt 7, 3) := by decide +kernel
theorem dX2_answer_56 : decode cX2_answer 56 = .ok (.iconst 0, 1) := by decide +kernel
theorem dX2_answer_57 : decode cX2_answer 57 = .ok (.goto 5, 3) := by decide +kernel
theorem dX2_answer_60 : decode cX2_answer 60 = .ok (.iload 4, 2) := by decide +kernel
theorem dX2_answer_62 : decode cX2_answer 62 = .ok (.ireturn, 1) := by decide +kernel
theorem dX2_answer_63 : decode cX2_answer 63 = .ok (.iload_n 2, 1) := by decide +kernel
theorem dX2_answer_64 : decode cX2_answer 64 = .ok (.iconst (-1), 1) := by decide +kernel
theorem dX2_answer_65 : decode cX2_answer 65 = .ok (.if_icmp .ne 10, 3) := by decide +kernel
theorem dX2_answer_68 : decode cX2_answer 68 = .ok (.iload 5, 2) := by decide +kernel
theorem dX2_answer_70 : decode cX2_answer 70 = .ok (.iconst 1, 1) := by decide +kernel
theorem dX2_answer_71 : decode cX2_answer 71 = .ok (.isub, 1) := by decide +kernel
theorem dX2_answer_72 : decode cX2_answer 72 = .ok (.goto 5, 3) := by decide +kernel
theorem dX2_answer_75 : decode cX2_answer 75 = .ok (.iload 5, 2) := by decide +kernel
theorem dX2_answer_77 : decode cX2_answer 77 = .ok (.ireturn, 1) := by decide +kernel
theorem dX2_answer_78 : decode cX2_answer 78 = .ok (.iload_n 3, 1) := by decide +kernel
theorem dX2_answer_79 : decode cX2_answer 79 = .ok (.iconst 2, 1) := by decide +kernel
theorem dX2_answer_80 : decode cX2_answer 80 = .ok (.irem, 1) := by decide +kernel
theorem dX2_answer_81 : decode cX2_answer 81 = .ok (.iconst 1, 1) := by decide +kernel
theorem dX2_answer_82 : decode cX2_answer 82 = .ok (.if_icmp .ne 8, 3) := by decide +kernel
theorem dX2_answer_85 : decode cX2_answer 85 = .ok (.iload 4, 2) := by decide +kernel
theorem dX2_answer_87 : decode cX2_answer 87 = .ok (.goto 4, 3) := by decide +kernel
theorem dX2_answer_90 : decode cX2_answer 90 = .ok (.iconst 0, 1) := by decide +kernel
theorem dX2_answer_91 : decode cX2_answer 91 = .ok (.ireturn, 1) := by decide +kernel
theorem dX2_answer_92 : decode cX2_answer 92 = .ok (.iload_n 3, 1) := by decide +kernel
theorem dX2_answer_93 : decode cX2_answer 93 = .ok (.bipush 18, 2) := by decide +kernel
theorem dX2_answer_95 : decode cX2_answer 95 = .ok (.if_icmp .lt 10, 3) := by decide +kernel
theorem dX2_answer_98 : decode cX2_answer 98 = .ok (.iconst 2, 1) := by decide +kernel
theorem dX2_answer_99 : decode cX2_answer 99 = .ok (.iload 5, 2) := by decide +kernel
theorem dX2_answer_101 : decode cX2_answer 101 = .ok (.imul, 1) := by decide +kernel
theorem dX2_answer_102 : decode cX2_answer 102 = .ok (.goto 5, 3) := by decide +kernel
theorem dX2_answer_105 : decode cX2_answer 105 = .ok (.iload 5, 2) := by decide +kernel
theorem dX2_answer_107 : decode cX2_answer 107 = .ok (.ireturn, 1) := by decide +kernel
theorem dX2_bestQuestion_0 : decode cX2_bestQuestion 0 = .ok (.iconst (-1), 1) := by decide +kernel
theorem dX2_bestQuestion_1 : decode cX2_bestQuestion 1 = .ok (.istore_n 2, 1) := by decide +kernel
theorem dX2_bestQuestion_2 : decode cX2_bestQuestion 2 = .ok (.bipush 7, 2) := by decide +kernel
theorem dX2_bestQuestion_4 : decode cX2_bestQuestion 4 = .ok (.istore_n 3, 1) := by decide +kernel
theorem dX2_bestQuestion_5 : decode cX2_bestQuestion 5 = .ok (.iconst 0, 1) := by decide +kernel
theorem dX2_bestQuestion_6 : decode cX2_bestQuestion 6 = .ok (.istore 4, 2) := by decide +kernel
theorem dX2_bestQuestion_8 : decode cX2_bestQuestion 8 = .ok (.iload 4, 2) := by decide +kernel
theorem dX2_bestQuestion_10 : decode cX2_bestQuestion 10 = .ok (.bipush 24, 2) := by decide +kernel
theorem dX2_bestQuestion_12 : decode cX2_bestQuestion 12 = .ok (.if_icmp .ge 56, 3) := by decide +kernel
theorem dX2_bestQuestion_15 : decode cX2_bestQuestion 15 = .ok (.iconst (-1), 1) := by decide +kernel
theorem dX2_bestQuestion_16 : decode cX2_bestQuestion 16 = .ok (.istore 5, 2) := by decide +kernel
theorem dX2_bestQuestion_18 : decode cX2_bestQuestion 18 = .ok (.iload 5, 2) := by decide +kernel
theorem dX2_bestQuestion_20 : decode cX2_bestQuestion 20 = .ok (.bipush 8, 2) := by decide +kernel
theorem dX2_bestQuestion_22 : decode cX2_bestQuestion 22 = .ok (.if_icmp .gt 40, 3) := by decide +kernel
theorem dX2_bestQuestion_25 : decode cX2_bestQuestion 25 = .ok (.aload_n 0, 1) := by decide +kernel
theorem dX2_bestQuestion_26 : decode cX2_bestQuestion 26 = .ok (.iload_n 1, 1) := by decide +kernel
theorem dX2_bestQuestion_27 : decode cX2_bestQuestion 27 = .ok (.iload 5, 2) := by decide +kernel
theorem dX2_bestQuestion_29 : decode cX2_bestQuestion 29 = .ok (.iload 4, 2) := by decide +kernel
theorem dX2_bestQuestion_31 : decode cX2_bestQuestion 31 = .ok (.invokevirtual 11, 3) := by decide +kernel
theorem dX2_bestQuestion_34 : decode cX2_bestQuestion 34 = .ok (.istore 6, 2) := by decide +kernel
theorem dX2_bestQuestion_36 : decode cX2_bestQuestion 36 = .ok (.iload 6, 2) := by decide +kernel
theorem dX2_bestQuestion_38 : decode cX2_bestQuestion 38 = .ok (.iload_n 3, 1) := by decide +kernel
theorem dX2_bestQuestion_39 : decode cX2_bestQuestion 39 = .ok (.if_icmp .ge 17, 3) := by decide +kernel
theorem dX2_bestQuestion_42 : decode cX2_bestQuestion 42 = .ok (.iload 6, 2) := by decide +kernel
theorem dX2_bestQuestion_44 : decode cX2_bestQuestion 44 = .ok (.istore_n 3, 1) := by decide +kernel
theorem dX2_bestQuestion_45 : decode cX2_bestQuestion 45 = .ok (.bipush 10, 2) := by decide +kernel
theorem dX2_bestQuestion_47 : decode cX2_bestQuestion 47 = .ok (.iload 4, 2) := by decide +kernel
theorem dX2_bestQuestion_49 : decode cX2_bestQuestion 49 = .ok (.imul, 1) := by decide +kernel
theorem dX2_bestQuestion_50 : decode cX2_bestQuestion 50 = .ok (.iload 5, 2) := by decide +kernel
theorem dX2_bestQuestion_52 : decode cX2_bestQuestion 52 = .ok (.iadd, 1) := by decide +kernel
theorem dX2_bestQuestion_53 : decode cX2_bestQuestion 53 = .ok (.iconst 1, 1) := by decide +kernel
theorem dX2_bestQuestion_54 : decode cX2_bestQuestion 54 = .ok (.iadd, 1) := by decide +kernel
theorem dX2_bestQuestion_55 : decode cX2_bestQuestion 55 = .ok (.istore_n 2, 1) := by decide +kernel
theorem dX2_bestQuestion_56 : decode cX2_bestQuestion 56 = .ok (.iinc 5 1, 3) := by decide +kernel
theorem dX2_bestQuestion_59 : decode cX2_bestQuestion 59 = .ok (.goto (-41), 3) := by decide +kernel
theorem dX2_bestQuestion_62 : decode cX2_bestQuestion 62 = .ok (.iinc 4 1, 3) := by decide +kernel
theorem dX2_bestQuestion_65 : decode cX2_bestQuestion 65 = .ok (.goto (-57), 3) := by decide +kernel
theorem dX2_bestQuestion_68 : decode cX2_bestQuestion 68 = .ok (.iload_n 2, 1) := by decide +kernel
theorem dX2_bestQuestion_69 : decode cX2_bestQuestion 69 = .ok (.ireturn, 1) := by decide +kernel
theorem dX3_init_0 : decode cX3_init 0 = .ok (.aload_n 0, 1) := by decide +kernel
theorem dX3_init_1 : decode cX3_init 1 = .ok (.invokespecial 5, 3) := by decide +kernel
theorem dX3_init_4 : decode cX3_init 4 = .ok (.aload_n 0, 1) := by decide +kernel
theorem dX3_init_5 : decode cX3_init 5 = .ok (.bipush 40, 2) := by decide +kernel
theorem dX3_init_7 : decode cX3_init 7 = .ok (.newarray .int, 2) := by decide +kernel
theorem dX3_init_9 : decode cX3_init 9 = .ok (.putfield 11, 3) := by decide +kernel
theorem dX3_init_12 : decode cX3_init 12 = .ok (.aload_n 0, 1) := by decide +kernel
theorem dX3_init_13 : decode cX3_init 13 = .ok (.sipush 256, 3) := by decide +kernel
theorem dX3_init_16 : decode cX3_init 16 = .ok (.newarray .int, 2) := by decide +kernel
theorem dX3_init_18 : decode cX3_init 18 = .ok (.putfield 15, 3) := by decide +kernel
theorem dX3_init_21 : decode cX3_init 21 = .ok (.aload_n 0, 1) := by decide +kernel
theorem dX3_init_22 : decode cX3_init 22 = .ok (.sipush 256, 3) := by decide +kernel
theorem dX3_init_25 : decode cX3_init 25 = .ok (.newarray .int, 2) := by decide +kernel
theorem dX3_init_27 : decode cX3_init 27 = .ok (.putfield 18, 3) := by decide +kernel
theorem dX3_init_30 : decode cX3_init 30 = .ok (.aload_n 0, 1) := by decide +kernel
theorem dX3_init_31 : decode cX3_init 31 = .ok (.iconst 0, 1) := by decide +kernel
theorem dX3_init_32 : decode cX3_init 32 = .ok (.putfield 21, 3) := by decide +kernel
theorem dX3_init_35 : decode cX3_init 35 = .ok (.aload_n 0, 1) := by decide +kernel
theorem dX3_init_36 : decode cX3_init 36 = .ok (.iconst (-1), 1) := by decide +kernel
theorem dX3_init_37 : decode cX3_init 37 = .ok (.putfield 25, 3) := by decide +kernel
theorem dX3_init_40 : decode cX3_init 40 = .ok (.return_, 1) := by decide +kernel
theorem dX3_make_0 : decode cX3_make 0 = .ok (.aload_n 0, 1) := by decide +kernel
theorem dX3_make_1 : decode cX3_make 1 = .ok (.aload_n 1, 1) := by decide +kernel
theorem dX3_make_2 : decode cX3_make 2 = .ok (.iload_n 2, 1) := by decide +kernel
theorem dX3_make_3 : decode cX3_make 3 = .ok (.iload_n 3, 1) := by decide +kernel
theorem dX3_make_4 : decode cX3_make 4 = .ok (.invokevirtual 28, 3) := by decide +kernel
theorem dX3_make_7 : decode cX3_make 7 = .ok (.putfield 21, 3) := by decide +kernel
theorem dX3_make_10 : decode cX3_make 10 = .ok (.iconst 0, 1) := by decide +kernel
theorem dX3_make_11 : decode cX3_make 11 = .ok (.istore 4, 2) := by decide +kernel
theorem dX3_make_13 : decode cX3_make 13 = .ok (.iload 4, 2) := by decide +kernel
theorem dX3_make_15 : decode cX3_make 15 = .ok (.bipush 40, 2) := by decide +kernel
theorem dX3_make_17 : decode cX3_make 17 = .ok (.if_icmp .ge 35, 3) := by decide +kernel
theorem dX3_make_20 : decode cX3_make 20 = .ok (.aload_n 0, 1) := by decide +kernel
theorem dX3_make_21 : decode cX3_make 21 = .ok (.getfield 11, 3) := by decide +kernel
theorem dX3_make_24 : decode cX3_make 24 = .ok (.iload 4, 2) := by decide +kernel
theorem dX3_make_26 : decode cX3_make 26 = .ok (.aload_n 1, 1) := by decide +kernel
theorem dX3_make_27 : decode cX3_make 27 = .ok (.iload_n 2, 1) := by decide +kernel
theorem dX3_make_28 : decode cX3_make 28 = .ok (.aload_n 0, 1) := by decide +kernel
theorem dX3_make_29 : decode cX3_make 29 = .ok (.getfield 21, 3) := by decide +kernel
theorem dX3_make_32 : decode cX3_make 32 = .ok (.aload_n 1, 1) := by decide +kernel
theorem dX3_make_33 : decode cX3_make 33 = .ok (.getfield 33, 3) := by decide +kernel
theorem dX3_make_36 : decode cX3_make 36 = .ok (.getfield 37, 3) := by decide +kernel
theorem dX3_make_39 : decode cX3_make 39 = .ok (.iload 4, 2) := by decide +kernel
theorem dX3_make_41 : decode cX3_make 41 = .ok (.iadd, 1) := by decide +kernel
theorem dX3_make_42 : decode cX3_make 42 = .ok (.invokevirtual 42, 3) := by decide +kernel
theorem dX3_make_45 : decode cX3_make 45 = .ok (.iastore, 1) := by decide +kernel
theorem dX3_make_46 : decode cX3_make 46 = .ok (.iinc 4 1, 3) := by decide +kernel
theorem dX3_make_49 : decode cX3_make 49 = .ok (.goto (-36), 3) := by decide +kernel
theorem dX3_make_52 : decode cX3_make 52 = .ok (.iconst 0, 1) := by decide +kernel
theorem dX3_make_53 : decode cX3_make 53 = .ok (.istore 4, 2) := by decide +kernel
theorem dX3_make_55 : decode cX3_make 55 = .ok (.iload 4, 2) := by decide +kernel
theorem dX3_make_57 : decode cX3_make 57 = .ok (.sipush 256, 3) := by decide +kernel
theorem dX3_make_60 : decode cX3_make 60 = .ok (.if_icmp .ge 22, 3) := by decide +kernel
theorem dX3_make_63 : decode cX3_make 63 = .ok (.aload_n 0, 1) := by decide +kernel
theorem dX3_make_64 : decode cX3_make 64 = .ok (.getfield 15, 3) := by decide +kernel
theorem dX3_make_67 : decode cX3_make 67 = .ok (.iload 4, 2) := by decide +kernel
theorem dX3_make_69 : decode cX3_make 69 = .ok (.aload_n 0, 1) := by decide +kernel
theorem dX3_make_70 : decode cX3_make 70 = .ok (.iload 4, 2) := by decide +kernel
theorem dX3_make_72 : decode cX3_make 72 = .ok (.invokevirtual 45, 3) := by decide +kernel
theorem dX3_make_75 : decode cX3_make 75 = .ok (.iastore, 1) := by decide +kernel
theorem dX3_make_76 : decode cX3_make 76 = .ok (.iinc 4 1, 3) := by decide +kernel
theorem dX3_make_79 : decode cX3_make 79 = .ok (.goto (-24), 3) := by decide +kernel
theorem dX3_make_82 : decode cX3_make 82 = .ok (.aload_n 0, 1) := by decide +kernel
theorem dX3_make_83 : decode cX3_make 83 = .ok (.getfield 21, 3) := by decide +kernel
theorem dX3_make_86 : decode cX3_make 86 = .ok (.iconst 0, 1) := by decide +kernel
theorem dX3_make_87 : decode cX3_make 87 = .ok (.sipush 255, 3) := by decide +kernel
theorem dX3_make_90 : decode cX3_make 90 = .ok (.invokestatic 49, 3) := by decide +kernel
theorem dX3_make_93 : decode cX3_make 93 = .ok (.ifCond .eq 15, 3) := by decide +kernel
theorem dX3_make_96 : decode cX3_make 96 = .ok (.aload_n 0, 1) := by decide +kernel
theorem dX3_make_97 : decode cX3_make 97 = .ok (.getfield 15, 3) := by decide +kernel
theorem dX3_make_100 : decode cX3_make 100 = .ok (.aload_n 0, 1) := by decide +kernel
theorem dX3_make_101 : decode cX3_make 101 = .ok (.getfield 21, 3) := by decide +kernel
theorem dX3_make_104 : decode cX3_make 104 = .ok (.iaload, 1) := by decide +kernel
theorem dX3_make_105 : decode cX3_make 105 = .ok (.goto 5, 3) := by decide +kernel
theorem dX3_make_108 : decode cX3_make 108 = .ok (.bipush 41, 2) := by decide +kernel
theorem dX3_make_110 : decode cX3_make 110 = .ok (.istore 4, 2) := by decide +kernel
theorem dX3_make_112 : decode cX3_make 112 = .ok (.aload_n 0, 1) := by decide +kernel
theorem dX3_make_113 : decode cX3_make 113 = .ok (.iload 4, 2) := by decide +kernel
theorem dX3_make_115 : decode cX3_make 115 = .ok (.bipush 41, 2) := by decide +kernel
theorem dX3_make_117 : decode cX3_make 117 = .ok (.if_icmp .ne 7, 3) := by decide +kernel
theorem dX3_make_120 : decode cX3_make 120 = .ok (.iconst (-1), 1) := by decide +kernel
theorem dX3_make_121 : decode cX3_make 121 = .ok (.goto 5, 3) := by decide +kernel
theorem dX3_make_124 : decode cX3_make 124 = .ok (.iload 4, 2) := by decide +kernel
theorem dX3_make_126 : decode cX3_make 126 = .ok (.putfield 25, 3) := by decide +kernel
theorem dX3_make_129 : decode cX3_make 129 = .ok (.aload_n 0, 1) := by decide +kernel
theorem dX3_make_130 : decode cX3_make 130 = .ok (.getfield 25, 3) := by decide +kernel
theorem dX3_make_133 : decode cX3_make 133 = .ok (.ireturn, 1) := by decide +kernel
theorem dX3_soonestOf_0 : decode cX3_soonestOf 0 = .ok (.iload_n 1, 1) := by decide +kernel
theorem dX3_soonestOf_1 : decode cX3_soonestOf 1 = .ok (.ifCond .ne 7, 3) := by decide +kernel
theorem dX3_soonestOf_4 : decode cX3_soonestOf 4 = .ok (.iconst 0, 1) := by decide +kernel
theorem dX3_soonestOf_5 : decode cX3_soonestOf 5 = .ok (.goto 5, 3) := by decide +kernel
theorem dX3_soonestOf_8 : decode cX3_soonestOf 8 = .ok (.bipush 41, 2) := by decide +kernel
theorem dX3_soonestOf_10 : decode cX3_soonestOf 10 = .ok (.istore_n 2, 1) := by decide +kernel
theorem dX3_soonestOf_11 : decode cX3_soonestOf 11 = .ok (.iconst 0, 1) := by decide +kernel
theorem dX3_soonestOf_12 : decode cX3_soonestOf 12 = .ok (.istore_n 3, 1) := by decide +kernel
theorem dX3_soonestOf_13 : decode cX3_soonestOf 13 = .ok (.iload_n 3, 1) := by decide +kernel
theorem dX3_soonestOf_14 : decode cX3_soonestOf 14 = .ok (.bipush 8, 2) := by decide +kernel
theorem dX3_soonestOf_16 : decode cX3_soonestOf 16 = .ok (.if_icmp .ge 47, 3) := by decide +kernel
theorem dX3_soonestOf_19 : decode cX3_soonestOf 19 = .ok (.iconst 1, 1) := by decide +kernel
theorem dX3_soonestOf_20 : decode cX3_soonestOf 20 = .ok (.iload_n 3, 1) := by decide +kernel
theorem dX3_soonestOf_21 : decode cX3_soonestOf 21 = .ok (.ishl, 1) := by decide +kernel
theorem dX3_soonestOf_22 : decode cX3_soonestOf 22 = .ok (.istore 4, 2) := by decide +kernel
theorem dX3_soonestOf_24 : decode cX3_soonestOf 24 = .ok (.iload_n 1, 1) := by decide +kernel
theorem dX3_soonestOf_25 : decode cX3_soonestOf 25 = .ok (.aload_n 0, 1) := by decide +kernel
theorem dX3_soonestOf_26 : decode cX3_soonestOf 26 = .ok (.getfield 21, 3) := by decide +kernel
theorem dX3_soonestOf_29 : decode cX3_soonestOf 29 = .ok (.iand, 1) := by decide +kernel
theorem dX3_soonestOf_30 : decode cX3_soonestOf 30 = .ok (.iload 4, 2) := by decide +kernel
theorem dX3_soonestOf_32 : decode cX3_soonestOf 32 = .ok (.iand, 1) := by decide +kernel
theorem dX3_soonestOf_33 : decode cX3_soonestOf 33 = .ok (.ifCond .eq 24, 3) := by decide +kernel
theorem dX3_soonestOf_36 : decode cX3_soonestOf 36 = .ok (.iload_n 2, 1) := by decide +kernel
theorem dX3_soonestOf_37 : decode cX3_soonestOf 37 = .ok (.aload_n 0, 1) := by decide +kernel
theorem dX3_soonestOf_38 : decode cX3_soonestOf 38 = .ok (.iload_n 3, 1) := by decide +kernel
theorem dX3_soonestOf_39 : decode cX3_soonestOf 39 = .ok (.aload_n 0, 1) := by decide +kernel
theorem dX3_soonestOf_40 : decode cX3_soonestOf 40 = .ok (.getfield 15, 3) := by decide +kernel
theorem dX3_soonestOf_43 : decode cX3_soonestOf 43 = .ok (.iload_n 1, 1) := by decide +kernel
theorem dX3_soonestOf_44 : decode cX3_soonestOf 44 = .ok (.iload 4, 2) := by decide +kernel
theorem dX3_soonestOf_46 : decode cX3_soonestOf 46 = .ok (.ixor, 1) := by decide +kernel
theorem dX3_soonestOf_47 : decode cX3_soonestOf 47 = .ok (.iaload, 1) := by decide +kernel
theorem dX3_soonestOf_48 : decode cX3_soonestOf 48 = .ok (.invokevirtual 53, 3) := by decide +kernel
theorem dX3_soonestOf_51 : decode cX3_soonestOf 51 = .ok (.iconst 1, 1) := by decide +kernel
theorem dX3_soonestOf_52 : decode cX3_soonestOf 52 = .ok (.iadd, 1) := by decide +kernel
theorem dX3_soonestOf_53 : decode cX3_soonestOf 53 = .ok (.invokestatic 56, 3) := by decide +kernel
theorem dX3_soonestOf_56 : decode cX3_soonestOf 56 = .ok (.istore_n 2, 1) := by decide +kernel
theorem dX3_soonestOf_57 : decode cX3_soonestOf 57 = .ok (.iinc 3 1, 3) := by decide +kernel
theorem dX3_soonestOf_60 : decode cX3_soonestOf 60 = .ok (.goto (-47), 3) := by decide +kernel
theorem dX3_soonestOf_63 : decode cX3_soonestOf 63 = .ok (.iload_n 2, 1) := by decide +kernel
theorem dX3_soonestOf_64 : decode cX3_soonestOf 64 = .ok (.ireturn, 1) := by decide +kernel
theorem dX3_firstMinute_0 : decode cX3_firstMinute 0 = .ok (.iload_n 2, 1) := by decide +kernel
theorem dX3_firstMinute_1 : decode cX3_firstMinute 1 = .ok (.iconst 0, 1) := by decide +kernel
theorem dX3_firstMinute_2 : decode cX3_firstMinute 2 = .ok (.invokestatic 61, 3) := by decide +kernel
theorem dX3_firstMinute_5 : decode cX3_firstMinute 5 = .ok (.istore_n 3, 1) := by decide +kernel
theorem dX3_firstMinute_6 : decode cX3_firstMinute 6 = .ok (.iload_n 3, 1) := by decide +kernel
theorem dX3_firstMinute_7 : decode cX3_firstMinute 7 = .ok (.bipush 40, 2) := by decide +kernel
theorem dX3_firstMinute_9 : decode cX3_firstMinute 9 = .ok (.if_icmp .ge 25, 3) := by decide +kernel
theorem dX3_firstMinute_12 : decode cX3_firstMinute 12 = .ok (.aload_n 0, 1) := by decide +kernel
theorem dX3_firstMinute_13 : decode cX3_firstMinute 13 = .ok (.getfield 11, 3) := by decide +kernel
theorem dX3_firstMinute_16 : decode cX3_firstMinute 16 = .ok (.iload_n 3, 1) := by decide +kernel
theorem dX3_firstMinute_17 : decode cX3_firstMinute 17 = .ok (.iaload, 1) := by decide +kernel
theorem dX3_firstMinute_18 : decode cX3_firstMinute 18 = .ok (.iload_n 1, 1) := by decide +kernel
theorem dX3_firstMinute_19 : decode cX3_firstMinute 19 = .ok (.ishr, 1) := by decide +kernel
theorem dX3_firstMinute_20 : decode cX3_firstMinute 20 = .ok (.iconst 1, 1) := by decide +kernel
theorem dX3_firstMinute_21 : decode cX3_firstMinute 21 = .ok (.iand, 1) := by decide +kernel
theorem dX3_firstMinute_22 : decode cX3_firstMinute 22 = .ok (.iconst 1, 1) := by decide +kernel
theorem dX3_firstMinute_23 : decode cX3_firstMinute 23 = .ok (.if_icmp .ne 5, 3) := by decide +kernel
theorem dX3_firstMinute_26 : decode cX3_firstMinute 26 = .ok (.iload_n 3, 1) := by decide +kernel
theorem dX3_firstMinute_27 : decode cX3_firstMinute 27 = .ok (.ireturn, 1) := by decide +kernel
theorem dX3_firstMinute_28 : decode cX3_firstMinute 28 = .ok (.iinc 3 1, 3) := by decide +kernel
theorem dX3_firstMinute_31 : decode cX3_firstMinute 31 = .ok (.goto (-25), 3) := by decide +kernel
theorem dX3_firstMinute_34 : decode cX3_firstMinute 34 = .ok (.bipush 40, 2) := by decide +kernel
theorem dX3_firstMinute_36 : decode cX3_firstMinute 36 = .ok (.ireturn, 1) := by decide +kernel
theorem dX3_deed_0 : decode cX3_deed 0 = .ok (.sipush 255, 3) := by decide +kernel
theorem dX3_deed_3 : decode cX3_deed 3 = .ok (.istore_n 2, 1) := by decide +kernel
theorem dX3_deed_4 : decode cX3_deed 4 = .ok (.iload_n 2, 1) := by decide +kernel
theorem dX3_deed_5 : decode cX3_deed 5 = .ok (.ifCond .lt 20, 3) := by decide +kernel
theorem dX3_deed_8 : decode cX3_deed 8 = .ok (.aload_n 0, 1) := by decide +kernel
theorem dX3_deed_9 : decode cX3_deed 9 = .ok (.getfield 18, 3) := by decide +kernel
theorem dX3_deed_12 : decode cX3_deed 12 = .ok (.iload_n 2, 1) := by decide +kernel
theorem dX3_deed_13 : decode cX3_deed 13 = .ok (.aload_n 0, 1) := by decide +kernel
theorem dX3_deed_14 : decode cX3_deed 14 = .ok (.iload_n 2, 1) := by decide +kernel
theorem dX3_deed_15 : decode cX3_deed 15 = .ok (.invokevirtual 64, 3) := by decide +kernel
theorem dX3_deed_18 : decode cX3_deed 18 = .ok (.iastore, 1) := by decide +kernel
theorem dX3_deed_19 : decode cX3_deed 19 = .ok (.iinc 2 (-1), 3) := by decide +kernel
theorem dX3_deed_22 : decode cX3_deed 22 = .ok (.goto (-18), 3) := by decide +kernel
theorem dX3_deed_25 : decode cX3_deed 25 = .ok (.iconst 0, 1) := by decide +kernel
theorem dX3_deed_26 : decode cX3_deed 26 = .ok (.istore_n 2, 1) := by decide +kernel
theorem dX3_deed_27 : decode cX3_deed 27 = .ok (.iconst (-1), 1) := by decide +kernel
theorem dX3_deed_28 : decode cX3_deed 28 = .ok (.istore_n 3, 1) := by decide +kernel
theorem dX3_deed_29 : decode cX3_deed 29 = .ok (.iconst 0, 1) := by decide +kernel
theorem dX3_deed_30 : decode cX3_deed 30 = .ok (.istore 4, 2) := by decide +kernel
theorem dX3_deed_32 : decode cX3_deed 32 = .ok (.iload 4, 2) := by decide +kernel
theorem dX3_deed_34 : decode cX3_deed 34 = .ok (.iload_n 1, 1) := by decide +kernel
theorem dX3_deed_35 : decode cX3_deed 35 = .ok (.if_icmp .gt 48, 3) := by decide +kernel
theorem dX3_deed_38 : decode cX3_deed 38 = .ok (.iload 4, 2) := by decide +kernel
theorem dX3_deed_40 : decode cX3_deed 40 = .ok (.aload_n 0, 1) := by decide +kernel
theorem dX3_deed_41 : decode cX3_deed 41 = .ok (.getfield 25, 3) := by decide +kernel
theorem dX3_deed_44 : decode cX3_deed 44 = .ok (.if_icmp .ge 39, 3) := by decide +kernel
theorem dX3_deed_47 : decode cX3_deed 47 = .ok (.iload 4, 2) := by decide +kernel
theorem dX3_deed_49 : decode cX3_deed 49 = .ok (.bipush 40, 2) := by decide +kernel
theorem dX3_deed_51 : decode cX3_deed 51 = .ok (.if_icmp .ge 32, 3) := by decide +kernel
theorem dX3_deed_54 : decode cX3_deed 54 = .ok (.aload_n 0, 1) := by decide +kernel
theorem dX3_deed_55 : decode cX3_deed 55 = .ok (.iload_n 2, 1) := by decide +kernel
theorem dX3_deed_56 : decode cX3_deed 56 = .ok (.iload 4, 2) := by decide +kernel
theorem dX3_deed_58 : decode cX3_deed 58 = .ok (.invokevirtual 67, 3) := by decide +kernel
theorem dX3_deed_61 : decode cX3_deed 61 = .ok (.istore_n 3, 1) := by decide +kernel
theorem dX3_deed_62 : decode cX3_deed 62 = .ok (.iload_n 2, 1) := by decide +kernel
theorem dX3_deed_63 : decode cX3_deed 63 = .ok (.iload_n 3, 1) := by decide +kernel
theorem dX3_deed_64 : decode cX3_deed 64 = .ok (.iconst (-1), 1) := by decide +kernel
theorem dX3_deed_65 : decode cX3_deed 65 = .ok (.if_icmp .ne 7, 3) := by decide +kernel
theorem dX3_deed_68 : decode cX3_deed 68 = .ok (.iconst 0, 1) := by decide +kernel
theorem dX3_deed_69 : decode cX3_deed 69 = .ok (.goto 6, 3) := by decide +kernel
theorem dX3_deed_72 : decode cX3_deed 72 = .ok (.iconst 1, 1) := by decide +kernel
theorem dX3_deed_73 : decode cX3_deed 73 = .ok (.iload_n 3, 1) := by decide +kernel
theorem dX3_deed_74 : decode cX3_deed 74 = .ok (.ishl, 1) := by decide +kernel
theorem dX3_deed_75 : decode cX3_deed 75 = .ok (.ior, 1) := by decide +kernel
theorem dX3_deed_76 : decode cX3_deed 76 = .ok (.istore_n 2, 1) := by decide +kernel
theorem dX3_deed_77 : decode cX3_deed 77 = .ok (.iinc 4 1, 3) := by decide +kernel
theorem dX3_deed_80 : decode cX3_deed 80 = .ok (.goto (-48), 3) := by decide +kernel
theorem dX3_deed_83 : decode cX3_deed 83 = .ok (.iload_n 3, 1) := by decide +kernel
theorem dX3_deed_84 : decode cX3_deed 84 = .ok (.ireturn, 1) := by decide +kernel
theorem dX3_latestOf_0 : decode cX3_latestOf 0 = .ok (.iload_n 1, 1) := by decide +kernel
theorem dX3_latestOf_1 : decode cX3_latestOf 1 = .ok (.aload_n 0, 1) := by decide +kernel
theorem dX3_latestOf_2 : decode cX3_latestOf 2 = .ok (.getfield 21, 3) := by decide +kernel
theorem dX3_latestOf_5 : decode cX3_latestOf 5 = .ok (.if_icmp .ne 10, 3) := by decide +kernel
theorem dX3_latestOf_8 : decode cX3_latestOf 8 = .ok (.aload_n 0, 1) := by decide +kernel
theorem dX3_latestOf_9 : decode cX3_latestOf 9 = .ok (.getfield 25, 3) := by decide +kernel
theorem dX3_latestOf_12 : decode cX3_latestOf 12 = .ok (.goto 4, 3) := by decide +kernel
theorem dX3_latestOf_15 : decode cX3_latestOf 15 = .ok (.iconst (-1), 1) := by decide +kernel
theorem dX3_latestOf_16 : decode cX3_latestOf 16 = .ok (.istore_n 2, 1) := by decide +kernel
theorem dX3_latestOf_17 : decode cX3_latestOf 17 = .ok (.iconst 0, 1) := by decide +kernel
theorem dX3_latestOf_18 : decode cX3_latestOf 18 = .ok (.istore_n 3, 1) := by decide +kernel
theorem dX3_latestOf_19 : decode cX3_latestOf 19 = .ok (.iload_n 3, 1) := by decide +kernel
theorem dX3_latestOf_20 : decode cX3_latestOf 20 = .ok (.bipush 8, 2) := by decide +kernel
theorem dX3_latestOf_22 : decode cX3_latestOf 22 = .ok (.if_icmp .ge 47, 3) := by decide +kernel
theorem dX3_latestOf_25 : decode cX3_latestOf 25 = .ok (.iconst 1, 1) := by decide +kernel
theorem dX3_latestOf_26 : decode cX3_latestOf 26 = .ok (.iload_n 3, 1) := by decide +kernel
theorem dX3_latestOf_27 : decode cX3_latestOf 27 = .ok (.ishl, 1) := by decide +kernel
theorem dX3_latestOf_28 : decode cX3_latestOf 28 = .ok (.istore 4, 2) := by decide +kernel
theorem dX3_latestOf_30 : decode cX3_latestOf 30 = .ok (.aload_n 0, 1) := by decide +kernel
theorem dX3_latestOf_31 : decode cX3_latestOf 31 = .ok (.getfield 21, 3) := by decide +kernel
theorem dX3_latestOf_34 : decode cX3_latestOf 34 = .ok (.iload_n 1, 1) := by decide +kernel
theorem dX3_latestOf_35 : decode cX3_latestOf 35 = .ok (.iconst (-1), 1) := by decide +kernel
theorem dX3_latestOf_36 : decode cX3_latestOf 36 = .ok (.ixor, 1) := by decide +kernel
theorem dX3_latestOf_37 : decode cX3_latestOf 37 = .ok (.iand, 1) := by decide +kernel
theorem dX3_latestOf_38 : decode cX3_latestOf 38 = .ok (.iload 4, 2) := by decide +kernel
theorem dX3_latestOf_40 : decode cX3_latestOf 40 = .ok (.iand, 1) := by decide +kernel
theorem dX3_latestOf_41 : decode cX3_latestOf 41 = .ok (.ifCond .eq 22, 3) := by decide +kernel
theorem dX3_latestOf_44 : decode cX3_latestOf 44 = .ok (.iload_n 2, 1) := by decide +kernel
theorem dX3_latestOf_45 : decode cX3_latestOf 45 = .ok (.aload_n 0, 1) := by decide +kernel
theorem dX3_latestOf_46 : decode cX3_latestOf 46 = .ok (.iload_n 3, 1) := by decide +kernel
theorem dX3_latestOf_47 : decode cX3_latestOf 47 = .ok (.aload_n 0, 1) := by decide +kernel
theorem dX3_latestOf_48 : decode cX3_latestOf 48 = .ok (.getfield 18, 3) := by decide +kernel
theorem dX3_latestOf_51 : decode cX3_latestOf 51 = .ok (.iload_n 1, 1) := by decide +kernel
theorem dX3_latestOf_52 : decode cX3_latestOf 52 = .ok (.iload 4, 2) := by decide +kernel
theorem dX3_latestOf_54 : decode cX3_latestOf 54 = .ok (.ior, 1) := by decide +kernel
theorem dX3_latestOf_55 : decode cX3_latestOf 55 = .ok (.iaload, 1) := by decide +kernel
theorem dX3_latestOf_56 : decode cX3_latestOf 56 = .ok (.invokevirtual 70, 3) := by decide +kernel
theorem dX3_latestOf_59 : decode cX3_latestOf 59 = .ok (.invokestatic 61, 3) := by decide +kernel
theorem dX3_latestOf_62 : decode cX3_latestOf 62 = .ok (.istore_n 2, 1) := by decide +kernel
theorem dX3_latestOf_63 : decode cX3_latestOf 63 = .ok (.iinc 3 1, 3) := by decide +kernel
theorem dX3_latestOf_66 : decode cX3_latestOf 66 = .ok (.goto (-47), 3) := by decide +kernel
theorem dX3_latestOf_69 : decode cX3_latestOf 69 = .ok (.iload_n 2, 1) := by decide +kernel
theorem dX3_latestOf_70 : decode cX3_latestOf 70 = .ok (.ireturn, 1) := by decide +kernel
theorem dX3_lastMinute_0 : decode cX3_lastMinute 0 = .ok (.iload_n 2, 1) := by decide +kernel
theorem dX3_lastMinute_1 : decode cX3_lastMinute 1 = .ok (.bipush 40, 2) := by decide +kernel
theorem dX3_lastMinute_3 : decode cX3_lastMinute 3 = .ok (.invokestatic 56, 3) := by decide +kernel
theorem dX3_lastMinute_6 : decode cX3_lastMinute 6 = .ok (.iconst 1, 1) := by decide +kernel
theorem dX3_lastMinute_7 : decode cX3_lastMinute 7 = .ok (.isub, 1) := by decide +kernel
theorem dX3_lastMinute_8 : decode cX3_lastMinute 8 = .ok (.istore_n 3, 1) := by decide +kernel
theorem dX3_lastMinute_9 : decode cX3_lastMinute 9 = .ok (.iload_n 3, 1) := by decide +kernel
theorem dX3_lastMinute_10 : decode cX3_lastMinute 10 = .ok (.ifCond .lt 25, 3) := by decide +kernel
theorem dX3_lastMinute_13 : decode cX3_lastMinute 13 = .ok (.aload_n 0, 1) := by decide +kernel
theorem dX3_lastMinute_14 : decode cX3_lastMinute 14 = .ok (.getfield 11, 3) := by decide +kernel
theorem dX3_lastMinute_17 : decode cX3_lastMinute 17 = .ok (.iload_n 3, 1) := by decide +kernel
theorem dX3_lastMinute_18 : decode cX3_lastMinute 18 = .ok (.iaload, 1) := by decide +kernel
theorem dX3_lastMinute_19 : decode cX3_lastMinute 19 = .ok (.iload_n 1, 1) := by decide +kernel
theorem dX3_lastMinute_20 : decode cX3_lastMinute 20 = .ok (.ishr, 1) := by decide +kernel
theorem dX3_lastMinute_21 : decode cX3_lastMinute 21 = .ok (.iconst 1, 1) := by decide +kernel
theorem dX3_lastMinute_22 : decode cX3_lastMinute 22 = .ok (.iand, 1) := by decide +kernel
theorem dX3_lastMinute_23 : decode cX3_lastMinute 23 = .ok (.iconst 1, 1) := by decide +kernel
theorem dX3_lastMinute_24 : decode cX3_lastMinute 24 = .ok (.if_icmp .ne 5, 3) := by decide +kernel
theorem dX3_lastMinute_27 : decode cX3_lastMinute 27 = .ok (.iload_n 3, 1) := by decide +kernel
theorem dX3_lastMinute_28 : decode cX3_lastMinute 28 = .ok (.ireturn, 1) := by decide +kernel
theorem dX3_lastMinute_29 : decode cX3_lastMinute 29 = .ok (.iinc 3 (-1), 3) := by decide +kernel
theorem dX3_lastMinute_32 : decode cX3_lastMinute 32 = .ok (.goto (-23), 3) := by decide +kernel
theorem dX3_lastMinute_35 : decode cX3_lastMinute 35 = .ok (.iconst (-1), 1) := by decide +kernel
theorem dX3_lastMinute_36 : decode cX3_lastMinute 36 = .ok (.ireturn, 1) := by decide +kernel
theorem dX3_firstDeed_0 : decode cX3_firstDeed 0 = .ok (.aload_n 0, 1) := by decide +kernel
theorem dX3_firstDeed_1 : decode cX3_firstDeed 1 = .ok (.iload_n 1, 1) := by decide +kernel
theorem dX3_firstDeed_2 : decode cX3_firstDeed 2 = .ok (.iload_n 2, 1) := by decide +kernel
theorem dX3_firstDeed_3 : decode cX3_firstDeed 3 = .ok (.invokevirtual 73, 3) := by decide +kernel
theorem dX3_firstDeed_6 : decode cX3_firstDeed 6 = .ok (.ifCond .eq 5, 3) := by decide +kernel
theorem dX3_firstDeed_9 : decode cX3_firstDeed 9 = .ok (.iconst (-1), 1) := by decide +kernel
theorem dX3_firstDeed_10 : decode cX3_firstDeed 10 = .ok (.ireturn, 1) := by decide +kernel
theorem dX3_firstDeed_11 : decode cX3_firstDeed 11 = .ok (.iconst 0, 1) := by decide +kernel
theorem dX3_firstDeed_12 : decode cX3_firstDeed 12 = .ok (.istore_n 3, 1) := by decide +kernel
theorem dX3_firstDeed_13 : decode cX3_firstDeed 13 = .ok (.iload_n 3, 1) := by decide +kernel
theorem dX3_firstDeed_14 : decode cX3_firstDeed 14 = .ok (.bipush 8, 2) := by decide +kernel
theorem dX3_firstDeed_16 : decode cX3_firstDeed 16 = .ok (.if_icmp .ge 44, 3) := by decide +kernel
theorem dX3_firstDeed_19 : decode cX3_firstDeed 19 = .ok (.iconst 1, 1) := by decide +kernel
theorem dX3_firstDeed_20 : decode cX3_firstDeed 20 = .ok (.iload_n 3, 1) := by decide +kernel
theorem dX3_firstDeed_21 : decode cX3_firstDeed 21 = .ok (.ishl, 1) := by decide +kernel
theorem dX3_firstDeed_22 : decode cX3_firstDeed 22 = .ok (.istore 4, 2) := by decide +kernel
theorem dX3_firstDeed_24 : decode cX3_firstDeed 24 = .ok (.aload_n 0, 1) := by decide +kernel
theorem dX3_firstDeed_25 : decode cX3_firstDeed 25 = .ok (.getfield 11, 3) := by decide +kernel
theorem dX3_firstDeed_28 : decode cX3_firstDeed 28 = .ok (.iload_n 2, 1) := by decide +kernel
theorem dX3_firstDeed_29 : decode cX3_firstDeed 29 = .ok (.iaload, 1) := by decide +kernel
theorem dX3_firstDeed_30 : decode cX3_firstDeed 30 = .ok (.iload_n 1, 1) := by decide +kernel
theorem dX3_firstDeed_31 : decode cX3_firstDeed 31 = .ok (.iconst (-1), 1) := by decide +kernel
theorem dX3_firstDeed_32 : decode cX3_firstDeed 32 = .ok (.ixor, 1) := by decide +kernel
theorem dX3_firstDeed_33 : decode cX3_firstDeed 33 = .ok (.iand, 1) := by decide +kernel
theorem dX3_firstDeed_34 : decode cX3_firstDeed 34 = .ok (.iload 4, 2) := by decide +kernel
theorem dX3_firstDeed_36 : decode cX3_firstDeed 36 = .ok (.iand, 1) := by decide +kernel
theorem dX3_firstDeed_37 : decode cX3_firstDeed 37 = .ok (.ifCond .eq 17, 3) := by decide +kernel
theorem dX3_firstDeed_40 : decode cX3_firstDeed 40 = .ok (.aload_n 0, 1) := by decide +kernel
theorem dX3_firstDeed_41 : decode cX3_firstDeed 41 = .ok (.iload_n 1, 1) := by decide +kernel
theorem dX3_firstDeed_42 : decode cX3_firstDeed 42 = .ok (.iload 4, 2) := by decide +kernel
theorem dX3_firstDeed_44 : decode cX3_firstDeed 44 = .ok (.ior, 1) := by decide +kernel
theorem dX3_firstDeed_45 : decode cX3_firstDeed 45 = .ok (.iload_n 2, 1) := by decide +kernel
theorem dX3_firstDeed_46 : decode cX3_firstDeed 46 = .ok (.invokevirtual 73, 3) := by decide +kernel
theorem dX3_firstDeed_49 : decode cX3_firstDeed 49 = .ok (.ifCond .eq 5, 3) := by decide +kernel
theorem dX3_firstDeed_52 : decode cX3_firstDeed 52 = .ok (.iload_n 3, 1) := by decide +kernel
theorem dX3_firstDeed_53 : decode cX3_firstDeed 53 = .ok (.ireturn, 1) := by decide +kernel
theorem dX3_firstDeed_54 : decode cX3_firstDeed 54 = .ok (.iinc 3 1, 3) := by decide +kernel
theorem dX3_firstDeed_57 : decode cX3_firstDeed 57 = .ok (.goto (-44), 3) := by decide +kernel
theorem dX3_firstDeed_60 : decode cX3_firstDeed 60 = .ok (.iconst (-1), 1) := by decide +kernel
theorem dX3_firstDeed_61 : decode cX3_firstDeed 61 = .ok (.ireturn, 1) := by decide +kernel
theorem dX3_leavesTime_0 : decode cX3_leavesTime 0 = .ok (.iload_n 1, 1) := by decide +kernel
theorem dX3_leavesTime_1 : decode cX3_leavesTime 1 = .ok (.iconst 0, 1) := by decide +kernel
theorem dX3_leavesTime_2 : decode cX3_leavesTime 2 = .ok (.sipush 255, 3) := by decide +kernel
theorem dX3_leavesTime_5 : decode cX3_leavesTime 5 = .ok (.invokestatic 49, 3) := by decide +kernel
theorem dX3_leavesTime_8 : decode cX3_leavesTime 8 = .ok (.ifCond .eq 17, 3) := by decide +kernel
theorem dX3_leavesTime_11 : decode cX3_leavesTime 11 = .ok (.aload_n 0, 1) := by decide +kernel
theorem dX3_leavesTime_12 : decode cX3_leavesTime 12 = .ok (.getfield 18, 3) := by decide +kernel
theorem dX3_leavesTime_15 : decode cX3_leavesTime 15 = .ok (.iload_n 1, 1) := by decide +kernel
theorem dX3_leavesTime_16 : decode cX3_leavesTime 16 = .ok (.iaload, 1) := by decide +kernel
theorem dX3_leavesTime_17 : decode cX3_leavesTime 17 = .ok (.iload_n 2, 1) := by decide +kernel
theorem dX3_leavesTime_18 : decode cX3_leavesTime 18 = .ok (.if_icmp .le 7, 3) := by decide +kernel
theorem dX3_leavesTime_21 : decode cX3_leavesTime 21 = .ok (.iconst 1, 1) := by decide +kernel
theorem dX3_leavesTime_22 : decode cX3_leavesTime 22 = .ok (.goto 4, 3) := by decide +kernel
theorem dX3_leavesTime_25 : decode cX3_leavesTime 25 = .ok (.iconst 0, 1) := by decide +kernel
theorem dX3_leavesTime_26 : decode cX3_leavesTime 26 = .ok (.ireturn, 1) := by decide +kernel
theorem dX4_init_0 : decode cX4_init 0 = .ok (.aload_n 0, 1) := by decide +kernel
theorem dX4_init_1 : decode cX4_init 1 = .ok (.invokespecial 3, 3) := by decide +kernel
theorem dX4_init_4 : decode cX4_init 4 = .ok (.aload_n 0, 1) := by decide +kernel
theorem dX4_init_5 : decode cX4_init 5 = .ok (.iconst 0, 1) := by decide +kernel
theorem dX4_init_6 : decode cX4_init 6 = .ok (.putfield 9, 3) := by decide +kernel
theorem dX4_init_9 : decode cX4_init 9 = .ok (.aload_n 0, 1) := by decide +kernel
theorem dX4_init_10 : decode cX4_init 10 = .ok (.bipush 24, 2) := by decide +kernel
theorem dX4_init_12 : decode cX4_init 12 = .ok (.newarray .int, 2) := by decide +kernel
theorem dX4_init_14 : decode cX4_init 14 = .ok (.putfield 15, 3) := by decide +kernel
theorem dX4_init_17 : decode cX4_init 17 = .ok (.return_, 1) := by decide +kernel
theorem dX4_cell_0 : decode cX4_cell 0 = .ok (.iload_n 1, 1) := by decide +kernel
theorem dX4_cell_1 : decode cX4_cell 1 = .ok (.iconst 4, 1) := by decide +kernel
theorem dX4_cell_2 : decode cX4_cell 2 = .ok (.imul, 1) := by decide +kernel
theorem dX4_cell_3 : decode cX4_cell 3 = .ok (.iload_n 2, 1) := by decide +kernel
theorem dX4_cell_4 : decode cX4_cell 4 = .ok (.iadd, 1) := by decide +kernel
theorem dX4_cell_5 : decode cX4_cell 5 = .ok (.istore_n 3, 1) := by decide +kernel
theorem dX4_cell_6 : decode cX4_cell 6 = .ok (.iload_n 3, 1) := by decide +kernel
theorem dX4_cell_7 : decode cX4_cell 7 = .ok (.iconst 0, 1) := by decide +kernel
theorem dX4_cell_8 : decode cX4_cell 8 = .ok (.aload_n 0, 1) := by decide +kernel
theorem dX4_cell_9 : decode cX4_cell 9 = .ok (.getfield 15, 3) := by decide +kernel
theorem dX4_cell_12 : decode cX4_cell 12 = .ok (.arraylength, 1) := by decide +kernel
theorem dX4_cell_13 : decode cX4_cell 13 = .ok (.iconst 1, 1) := by decide +kernel
theorem dX4_cell_14 : decode cX4_cell 14 = .ok (.isub, 1) := by decide +kernel
theorem dX4_cell_15 : decode cX4_cell 15 = .ok (.invokestatic 19, 3) := by decide +kernel
theorem dX4_cell_18 : decode cX4_cell 18 = .ok (.ifCond .eq 12, 3) := by decide +kernel
theorem dX4_cell_21 : decode cX4_cell 21 = .ok (.aload_n 0, 1) := by decide +kernel
theorem dX4_cell_22 : decode cX4_cell 22 = .ok (.getfield 15, 3) := by decide +kernel
theorem dX4_cell_25 : decode cX4_cell 25 = .ok (.iload_n 3, 1) := by decide +kernel
theorem dX4_cell_26 : decode cX4_cell 26 = .ok (.iaload, 1) := by decide +kernel
theorem dX4_cell_27 : decode cX4_cell 27 = .ok (.goto 4, 3) := by decide +kernel
theorem dX4_cell_30 : decode cX4_cell 30 = .ok (.iconst 0, 1) := by decide +kernel
theorem dX4_cell_31 : decode cX4_cell 31 = .ok (.ireturn, 1) := by decide +kernel
theorem dX4_append_0 : decode cX4_append 0 = .ok (.aload_n 0, 1) := by decide +kernel
theorem dX4_append_1 : decode cX4_append 1 = .ok (.getfield 9, 3) := by decide +kernel
theorem dX4_append_4 : decode cX4_append 4 = .ok (.iconst 4, 1) := by decide +kernel
theorem dX4_append_5 : decode cX4_append 5 = .ok (.imul, 1) := by decide +kernel
theorem dX4_append_6 : decode cX4_append 6 = .ok (.istore 5, 2) := by decide +kernel
theorem dX4_append_8 : decode cX4_append 8 = .ok (.iload 5, 2) := by decide +kernel
theorem dX4_append_10 : decode cX4_append 10 = .ok (.iconst 0, 1) := by decide +kernel
theorem dX4_append_11 : decode cX4_append 11 = .ok (.aload_n 0, 1) := by decide +kernel
theorem dX4_append_12 : decode cX4_append 12 = .ok (.getfield 15, 3) := by decide +kernel
theorem dX4_append_15 : decode cX4_append 15 = .ok (.arraylength, 1) := by decide +kernel
theorem dX4_append_16 : decode cX4_append 16 = .ok (.iconst 4, 1) := by decide +kernel
theorem dX4_append_17 : decode cX4_append 17 = .ok (.isub, 1) := by decide +kernel
theorem dX4_append_18 : decode cX4_append 18 = .ok (.invokestatic 19, 3) := by decide +kernel
theorem dX4_append_21 : decode cX4_append 21 = .ok (.ifCond .eq 52, 3) := by decide +kernel
theorem dX4_append_24 : decode cX4_append 24 = .ok (.aload_n 0, 1) := by decide +kernel
theorem dX4_append_25 : decode cX4_append 25 = .ok (.getfield 15, 3) := by decide +kernel
theorem dX4_append_28 : decode cX4_append 28 = .ok (.iload 5, 2) := by decide +kernel
theorem dX4_append_30 : decode cX4_append 30 = .ok (.iload_n 1, 1) := by decide +kernel
theorem dX4_append_31 : decode cX4_append 31 = .ok (.iastore, 1) := by decide +kernel
theorem dX4_append_32 : decode cX4_append 32 = .ok (.aload_n 0, 1) := by decide +kernel
theorem dX4_append_33 : decode cX4_append 33 = .ok (.getfield 15, 3) := by decide +kernel
theorem dX4_append_36 : decode cX4_append 36 = .ok (.iload 5, 2) := by decide +kernel
theorem dX4_append_38 : decode cX4_append 38 = .ok (.iconst 1, 1) := by decide +kernel
theorem dX4_append_39 : decode cX4_append 39 = .ok (.iadd, 1) := by decide +kernel
theorem dX4_append_40 : decode cX4_append 40 = .ok (.iload_n 2, 1) := by decide +kernel
theorem dX4_append_41 : decode cX4_append 41 = .ok (.iastore, 1) := by decide +kernel
theorem dX4_append_42 : decode cX4_append 42 = .ok (.aload_n 0, 1) := by decide +kernel
theorem dX4_append_43 : decode cX4_append 43 = .ok (.getfield 15, 3) := by decide +kernel
theorem dX4_append_46 : decode cX4_append 46 = .ok (.iload 5, 2) := by decide +kernel
theorem dX4_append_48 : decode cX4_append 48 = .ok (.iconst 2, 1) := by decide +kernel
theorem dX4_append_49 : decode cX4_append 49 = .ok (.iadd, 1) := by decide +kernel
theorem dX4_append_50 : decode cX4_append 50 = .ok (.iload_n 3, 1) := by decide +kernel
theorem dX4_append_51 : decode cX4_append 51 = .ok (.iastore, 1) := by decide +kernel
theorem dX4_append_52 : decode cX4_append 52 = .ok (.aload_n 0, 1) := by decide +kernel
theorem dX4_append_53 : decode cX4_append 53 = .ok (.getfield 15, 3) := by decide +kernel
theorem dX4_append_56 : decode cX4_append 56 = .ok (.iload 5, 2) := by decide +kernel
theorem dX4_append_58 : decode cX4_append 58 = .ok (.iconst 3, 1) := by decide +kernel
theorem dX4_append_59 : decode cX4_append 59 = .ok (.iadd, 1) := by decide +kernel
theorem dX4_append_60 : decode cX4_append 60 = .ok (.iload 4, 2) := by decide +kernel
theorem dX4_append_62 : decode cX4_append 62 = .ok (.iastore, 1) := by decide +kernel
theorem dX4_append_63 : decode cX4_append 63 = .ok (.aload_n 0, 1) := by decide +kernel
theorem dX4_append_64 : decode cX4_append 64 = .ok (.dup, 1) := by decide +kernel
theorem dX4_append_65 : decode cX4_append 65 = .ok (.getfield 9, 3) := by decide +kernel
theorem dX4_append_68 : decode cX4_append 68 = .ok (.iconst 1, 1) := by decide +kernel
theorem dX4_append_69 : decode cX4_append 69 = .ok (.iadd, 1) := by decide +kernel
theorem dX4_append_70 : decode cX4_append 70 = .ok (.putfield 9, 3) := by decide +kernel
theorem dX4_append_73 : decode cX4_append 73 = .ok (.return_, 1) := by decide +kernel
theorem dX4_drop_0 : decode cX4_drop 0 = .ok (.aload_n 0, 1) := by decide +kernel
theorem dX4_drop_1 : decode cX4_drop 1 = .ok (.getfield 9, 3) := by decide +kernel
theorem dX4_drop_4 : decode cX4_drop 4 = .ok (.istore_n 1, 1) := by decide +kernel
theorem dX4_drop_5 : decode cX4_drop 5 = .ok (.aload_n 0, 1) := by decide +kernel
theorem dX4_drop_6 : decode cX4_drop 6 = .ok (.iconst 0, 1) := by decide +kernel
theorem dX4_drop_7 : decode cX4_drop 7 = .ok (.putfield 9, 3) := by decide +kernel
theorem dX4_drop_10 : decode cX4_drop 10 = .ok (.iload_n 1, 1) := by decide +kernel
theorem dX4_drop_11 : decode cX4_drop 11 = .ok (.ireturn, 1) := by decide +kernel
theorem dX4_copyFrom_0 : decode cX4_copyFrom 0 = .ok (.aload_n 0, 1) := by decide +kernel
theorem dX4_copyFrom_1 : decode cX4_copyFrom 1 = .ok (.aload_n 1, 1) := by decide +kernel
theorem dX4_copyFrom_2 : decode cX4_copyFrom 2 = .ok (.getfield 9, 3) := by decide +kernel
theorem dX4_copyFrom_5 : decode cX4_copyFrom 5 = .ok (.putfield 9, 3) := by decide +kernel
theorem dX4_copyFrom_8 : decode cX4_copyFrom 8 = .ok (.iconst 0, 1) := by decide +kernel
theorem dX4_copyFrom_9 : decode cX4_copyFrom 9 = .ok (.istore_n 2, 1) := by decide +kernel
theorem dX4_copyFrom_10 : decode cX4_copyFrom 10 = .ok (.iload_n 2, 1) := by decide +kernel
theorem dX4_copyFrom_11 : decode cX4_copyFrom 11 = .ok (.aload_n 0, 1) := by decide +kernel
theorem dX4_copyFrom_12 : decode cX4_copyFrom 12 = .ok (.getfield 15, 3) := by decide +kernel
theorem dX4_copyFrom_15 : decode cX4_copyFrom 15 = .ok (.arraylength, 1) := by decide +kernel
theorem dX4_copyFrom_16 : decode cX4_copyFrom 16 = .ok (.if_icmp .ge 21, 3) := by decide +kernel
theorem dX4_copyFrom_19 : decode cX4_copyFrom 19 = .ok (.aload_n 0, 1) := by decide +kernel
theorem dX4_copyFrom_20 : decode cX4_copyFrom 20 = .ok (.getfield 15, 3) := by decide +kernel
theorem dX4_copyFrom_23 : decode cX4_copyFrom 23 = .ok (.iload_n 2, 1) := by decide +kernel
theorem dX4_copyFrom_24 : decode cX4_copyFrom 24 = .ok (.aload_n 1, 1) := by decide +kernel
theorem dX4_copyFrom_25 : decode cX4_copyFrom 25 = .ok (.getfield 15, 3) := by decide +kernel
theorem dX4_copyFrom_28 : decode cX4_copyFrom 28 = .ok (.iload_n 2, 1) := by decide +kernel
theorem dX4_copyFrom_29 : decode cX4_copyFrom 29 = .ok (.iaload, 1) := by decide +kernel
theorem dX4_copyFrom_30 : decode cX4_copyFrom 30 = .ok (.iastore, 1) := by decide +kernel
theorem dX4_copyFrom_31 : decode cX4_copyFrom 31 = .ok (.iinc 2 1, 3) := by decide +kernel
theorem dX4_copyFrom_34 : decode cX4_copyFrom 34 = .ok (.goto (-24), 3) := by decide +kernel
theorem dX4_copyFrom_37 : decode cX4_copyFrom 37 = .ok (.return_, 1) := by decide +kernel
theorem dX4_digestOn_0 : decode cX4_digestOn 0 = .ok (.lload_n 1, 1) := by decide +kernel
theorem dX4_digestOn_1 : decode cX4_digestOn 1 = .ok (.lstore 4, 2) := by decide +kernel
theorem dX4_digestOn_3 : decode cX4_digestOn 3 = .ok (.iconst 0, 1) := by decide +kernel
theorem dX4_digestOn_4 : decode cX4_digestOn 4 = .ok (.istore 6, 2) := by decide +kernel
theorem dX4_digestOn_6 : decode cX4_digestOn 6 = .ok (.iload 6, 2) := by decide +kernel
theorem dX4_digestOn_8 : decode cX4_digestOn 8 = .ok (.aload_n 0, 1) := by decide +kernel
theorem dX4_digestOn_9 : decode cX4_digestOn 9 = .ok (.getfield 9, 3) := by decide +kernel
theorem dX4_digestOn_12 : decode cX4_digestOn 12 = .ok (.if_icmp .ge 42, 3) := by decide +kernel
theorem dX4_digestOn_15 : decode cX4_digestOn 15 = .ok (.iconst 0, 1) := by decide +kernel
theorem dX4_digestOn_16 : decode cX4_digestOn 16 = .ok (.istore 7, 2) := by decide +kernel
theorem dX4_digestOn_18 : decode cX4_digestOn 18 = .ok (.iload 7, 2) := by decide +kernel
theorem dX4_digestOn_20 : decode cX4_digestOn 20 = .ok (.iload_n 3, 1) := by decide +kernel
theorem dX4_digestOn_21 : decode cX4_digestOn 21 = .ok (.if_icmp .ge 27, 3) := by decide +kernel
theorem dX4_digestOn_24 : decode cX4_digestOn 24 = .ok (.ldc2_w 23, 3) := by decide +kernel
theorem dX4_digestOn_27 : decode cX4_digestOn 27 = .ok (.lload 4, 2) := by decide +kernel
theorem dX4_digestOn_29 : decode cX4_digestOn 29 = .ok (.lmul, 1) := by decide +kernel
theorem dX4_digestOn_30 : decode cX4_digestOn 30 = .ok (.aload_n 0, 1) := by decide +kernel
theorem dX4_digestOn_31 : decode cX4_digestOn 31 = .ok (.iload 6, 2) := by decide +kernel
theorem dX4_digestOn_33 : decode cX4_digestOn 33 = .ok (.iload 7, 2) := by decide +kernel
theorem dX4_digestOn_35 : decode cX4_digestOn 35 = .ok (.invokevirtual 25, 3) := by decide +kernel
theorem dX4_digestOn_38 : decode cX4_digestOn 38 = .ok (.i2l, 1) := by decide +kernel
theorem dX4_digestOn_39 : decode cX4_digestOn 39 = .ok (.ladd, 1) := by decide +kernel
theorem dX4_digestOn_40 : decode cX4_digestOn 40 = .ok (.lstore 4, 2) := by decide +kernel
theorem dX4_digestOn_42 : decode cX4_digestOn 42 = .ok (.iinc 7 1, 3) := by decide +kernel
theorem dX4_digestOn_45 : decode cX4_digestOn 45 = .ok (.goto (-27), 3) := by decide +kernel
theorem dX4_digestOn_48 : decode cX4_digestOn 48 = .ok (.iinc 6 1, 3) := by decide +kernel
theorem dX4_digestOn_51 : decode cX4_digestOn 51 = .ok (.goto (-45), 3) := by decide +kernel
theorem dX4_digestOn_54 : decode cX4_digestOn 54 = .ok (.lload 4, 2) := by decide +kernel
theorem dX4_digestOn_56 : decode cX4_digestOn 56 = .ok (.lreturn, 1) := by decide +kernel
theorem dX5_init_0 : decode cX5_init 0 = .ok (.aload_n 0, 1) := by decide +kernel
theorem dX5_init_1 : decode cX5_init 1 = .ok (.invokespecial 3, 3) := by decide +kernel
theorem dX5_init_4 : decode cX5_init 4 = .ok (.aload_n 0, 1) := by decide +kernel
theorem dX5_init_5 : decode cX5_init 5 = .ok (.bipush 8, 2) := by decide +kernel
theorem dX5_init_7 : decode cX5_init 7 = .ok (.newarray .int, 2) := by decide +kernel
theorem dX5_init_9 : decode cX5_init 9 = .ok (.putfield 9, 3) := by decide +kernel
theorem dX5_init_12 : decode cX5_init 12 = .ok (.aload_n 0, 1) := by decide +kernel
theorem dX5_init_13 : decode cX5_init 13 = .ok (.bipush 6, 2) := by decide +kernel
theorem dX5_init_15 : decode cX5_init 15 = .ok (.newarray .int, 2) := by decide +kernel
theorem dX5_init_17 : decode cX5_init 17 = .ok (.putfield 15, 3) := by decide +kernel
theorem dX5_init_20 : decode cX5_init 20 = .ok (.aload_n 0, 1) := by decide +kernel
theorem dX5_init_21 : decode cX5_init 21 = .ok (.bipush 6, 2) := by decide +kernel
theorem dX5_init_23 : decode cX5_init 23 = .ok (.newarray .int, 2) := by decide +kernel
theorem dX5_init_25 : decode cX5_init 25 = .ok (.putfield 18, 3) := by decide +kernel
theorem dX5_init_28 : decode cX5_init 28 = .ok (.aload_n 0, 1) := by decide +kernel
theorem dX5_init_29 : decode cX5_init 29 = .ok (.invokevirtual 21, 3) := by decide +kernel
theorem dX5_init_32 : decode cX5_init 32 = .ok (.return_, 1) := by decide +kernel
theorem dX5_reset_0 : decode cX5_reset 0 = .ok (.iconst 0, 1) := by decide +kernel
theorem dX5_reset_1 : decode cX5_reset 1 = .ok (.istore_n 1, 1) := by decide +kernel
theorem dX5_reset_2 : decode cX5_reset 2 = .ok (.iload_n 1, 1) := by decide +kernel
theorem dX5_reset_3 : decode cX5_reset 3 = .ok (.bipush 8, 2) := by decide +kernel
theorem dX5_reset_5 : decode cX5_reset 5 = .ok (.if_icmp .ge 16, 3) := by decide +kernel
theorem dX5_reset_8 : decode cX5_reset 8 = .ok (.aload_n 0, 1) := by decide +kernel
theorem dX5_reset_9 : decode cX5_reset 9 = .ok (.getfield 9, 3) := by decide +kernel
theorem dX5_reset_12 : decode cX5_reset 12 = .ok (.iload_n 1, 1) := by decide +kernel
theorem dX5_reset_13 : decode cX5_reset 13 = .ok (.iconst 0, 1) := by decide +kernel
theorem dX5_reset_14 : decode cX5_reset 14 = .ok (.iastore, 1) := by decide +kernel
theorem dX5_reset_15 : decode cX5_reset 15 = .ok (.iinc 1 1, 3) := by decide +kernel
theorem dX5_reset_18 : decode cX5_reset 18 = .ok (.goto (-16), 3) := by decide +kernel
theorem dX5_reset_21 : decode cX5_reset 21 = .ok (.iconst 0, 1) := by decide +kernel
theorem dX5_reset_22 : decode cX5_reset 22 = .ok (.istore_n 1, 1) := by decide +kernel
theorem dX5_reset_23 : decode cX5_reset 23 = .ok (.iload_n 1, 1) := by decide +kernel
theorem dX5_reset_24 : decode cX5_reset 24 = .ok (.bipush 6, 2) := by decide +kernel
theorem dX5_reset_26 : decode cX5_reset 26 = .ok (.if_icmp .ge 23, 3) := by decide +kernel
theorem dX5_reset_29 : decode cX5_reset 29 = .ok (.aload_n 0, 1) := by decide +kernel
theorem dX5_reset_30 : decode cX5_reset 30 = .ok (.getfield 15, 3) := by decide +kernel
theorem dX5_reset_33 : decode cX5_reset 33 = .ok (.iload_n 1, 1) := by decide +kernel
theorem dX5_reset_34 : decode cX5_reset 34 = .ok (.iconst 0, 1) := by decide +kernel
theorem dX5_reset_35 : decode cX5_reset 35 = .ok (.iastore, 1) := by decide +kernel
theorem dX5_reset_36 : decode cX5_reset 36 = .ok (.aload_n 0, 1) := by decide +kernel
theorem dX5_reset_37 : decode cX5_reset 37 = .ok (.getfield 18, 3) := by decide +kernel
theorem dX5_reset_40 : decode cX5_reset 40 = .ok (.iload_n 1, 1) := by decide +kernel
theorem dX5_reset_41 : decode cX5_reset 41 = .ok (.iconst (-1), 1) := by decide +kernel
theorem dX5_reset_42 : decode cX5_reset 42 = .ok (.iastore, 1) := by decide +kernel
theorem dX5_reset_43 : decode cX5_reset 43 = .ok (.iinc 1 1, 3) := by decide +kernel
theorem dX5_reset_46 : decode cX5_reset 46 = .ok (.goto (-23), 3) := by decide +kernel
theorem dX5_reset_49 : decode cX5_reset 49 = .ok (.aload_n 0, 1) := by decide +kernel
theorem dX5_reset_50 : decode cX5_reset 50 = .ok (.iconst 0, 1) := by decide +kernel
theorem dX5_reset_51 : decode cX5_reset 51 = .ok (.putfield 26, 3) := by decide +kernel
theorem dX5_reset_54 : decode cX5_reset 54 = .ok (.aload_n 0, 1) := by decide +kernel
theorem dX5_reset_55 : decode cX5_reset 55 = .ok (.iconst 0, 1) := by decide +kernel
theorem dX5_reset_56 : decode cX5_reset 56 = .ok (.putfield 30, 3) := by decide +kernel
theorem dX5_reset_59 : decode cX5_reset 59 = .ok (.return_, 1) := by decide +kernel
theorem dX5_copyFrom_0 : decode cX5_copyFrom 0 = .ok (.iconst 0, 1) := by decide +kernel
theorem dX5_copyFrom_1 : decode cX5_copyFrom 1 = .ok (.istore_n 2, 1) := by decide +kernel
theorem dX5_copyFrom_2 : decode cX5_copyFrom 2 = .ok (.iload_n 2, 1) := by decide +kernel
theorem dX5_copyFrom_3 : decode cX5_copyFrom 3 = .ok (.bipush 8, 2) := by decide +kernel
theorem dX5_copyFrom_5 : decode cX5_copyFrom 5 = .ok (.if_icmp .ge 21, 3) := by decide +kernel
theorem dX5_copyFrom_8 : decode cX5_copyFrom 8 = .ok (.aload_n 0, 1) := by decide +kernel
theorem dX5_copyFrom_9 : decode cX5_copyFrom 9 = .ok (.getfield 9, 3) := by decide +kernel
theorem dX5_copyFrom_12 : decode cX5_copyFrom 12 = .ok (.iload_n 2, 1) := by decide +kernel
theorem dX5_copyFrom_13 : decode cX5_copyFrom 13 = .ok (.aload_n 1, 1) := by decide +kernel
theorem dX5_copyFrom_14 : decode cX5_copyFrom 14 = .ok (.getfield 9, 3) := by decide +kernel
theorem dX5_copyFrom_17 : decode cX5_copyFrom 17 = .ok (.iload_n 2, 1) := by decide +kernel
theorem dX5_copyFrom_18 : decode cX5_copyFrom 18 = .ok (.iaload, 1) := by decide +kernel
theorem dX5_copyFrom_19 : decode cX5_copyFrom 19 = .ok (.iastore, 1) := by decide +kernel
theorem dX5_copyFrom_20 : decode cX5_copyFrom 20 = .ok (.iinc 2 1, 3) := by decide +kernel
theorem dX5_copyFrom_23 : decode cX5_copyFrom 23 = .ok (.goto (-21), 3) := by decide +kernel
theorem dX5_copyFrom_26 : decode cX5_copyFrom 26 = .ok (.iconst 0, 1) := by decide +kernel
theorem dX5_copyFrom_27 : decode cX5_copyFrom 27 = .ok (.istore_n 2, 1) := by decide +kernel
theorem dX5_copyFrom_28 : decode cX5_copyFrom 28 = .ok (.iload_n 2, 1) := by decide +kernel
theorem dX5_copyFrom_29 : decode cX5_copyFrom 29 = .ok (.bipush 6, 2) := by decide +kernel
theorem dX5_copyFrom_31 : decode cX5_copyFrom 31 = .ok (.if_icmp .ge 33, 3) := by decide +kernel
theorem dX5_copyFrom_34 : decode cX5_copyFrom 34 = .ok (.aload_n 0, 1) := by decide +kernel
theorem dX5_copyFrom_35 : decode cX5_copyFrom 35 = .ok (.getfield 15, 3) := by decide +kernel
theorem dX5_copyFrom_38 : decode cX5_copyFrom 38 = .ok (.iload_n 2, 1) := by decide +kernel
theorem dX5_copyFrom_39 : decode cX5_copyFrom 39 = .ok (.aload_n 1, 1) := by decide +kernel
theorem dX5_copyFrom_40 : decode cX5_copyFrom 40 = .ok (.getfield 15, 3) := by decide +kernel
theorem dX5_copyFrom_43 : decode cX5_copyFrom 43 = .ok (.iload_n 2, 1) := by decide +kernel
theorem dX5_copyFrom_44 : decode cX5_copyFrom 44 = .ok (.iaload, 1) := by decide +kernel
theorem dX5_copyFrom_45 : decode cX5_copyFrom 45 = .ok (.iastore, 1) := by decide +kernel
theorem dX5_copyFrom_46 : decode cX5_copyFrom 46 = .ok (.aload_n 0, 1) := by decide +kernel
theorem dX5_copyFrom_47 : decode cX5_copyFrom 47 = .ok (.getfield 18, 3) := by decide +kernel
theorem dX5_copyFrom_50 : decode cX5_copyFrom 50 = .ok (.iload_n 2, 1) := by decide +kernel
theorem dX5_copyFrom_51 : decode cX5_copyFrom 51 = .ok (.aload_n 1, 1) := by decide +kernel
theorem dX5_copyFrom_52 : decode cX5_copyFrom 52 = .ok (.getfield 18, 3) := by decide +kernel
theorem dX5_copyFrom_55 : decode cX5_copyFrom 55 = .ok (.iload_n 2, 1) := by decide +kernel
theorem dX5_copyFrom_56 : decode cX5_copyFrom 56 = .ok (.iaload, 1) := by decide +kernel
theorem dX5_copyFrom_57 : decode cX5_copyFrom 57 = .ok (.iastore, 1) := by decide +kernel
theorem dX5_copyFrom_58 : decode cX5_copyFrom 58 = .ok (.iinc 2 1, 3) := by decide +kernel
theorem dX5_copyFrom_61 : decode cX5_copyFrom 61 = .ok (.goto (-33), 3) := by decide +kernel
theorem dX5_copyFrom_64 : decode cX5_copyFrom 64 = .ok (.aload_n 0, 1) := by decide +kernel
theorem dX5_copyFrom_65 : decode cX5_copyFrom 65 = .ok (.aload_n 1, 1) := by decide +kernel
theorem dX5_copyFrom_66 : decode cX5_copyFrom 66 = .ok (.getfield 26, 3) := by decide +kernel
theorem dX5_copyFrom_69 : decode cX5_copyFrom 69 = .ok (.putfield 26, 3) := by decide +kernel
theorem dX5_copyFrom_72 : decode cX5_copyFrom 72 = .ok (.aload_n 0, 1) := by decide +kernel
theorem dX5_copyFrom_73 : decode cX5_copyFrom 73 = .ok (.aload_n 1, 1) := by decide +kernel
theorem dX5_copyFrom_74 : decode cX5_copyFrom 74 = .ok (.getfield 30, 3) := by decide +kernel
theorem dX5_copyFrom_77 : decode cX5_copyFrom 77 = .ok (.putfield 30, 3) := by decide +kernel
theorem dX5_copyFrom_80 : decode cX5_copyFrom 80 = .ok (.return_, 1) := by decide +kernel
theorem dX5_isKnown_0 : decode cX5_isKnown 0 = .ok (.aload_n 0, 1) := by decide +kernel
theorem dX5_isKnown_1 : decode cX5_isKnown 1 = .ok (.getfield 15, 3) := by decide +kernel
theorem dX5_isKnown_4 : decode cX5_isKnown 4 = .ok (.iload_n 1, 1) := by decide +kernel
theorem dX5_isKnown_5 : decode cX5_isKnown 5 = .ok (.iaload, 1) := by decide +kernel
theorem dX5_isKnown_6 : decode cX5_isKnown 6 = .ok (.iload_n 2, 1) := by decide +kernel
theorem dX5_isKnown_7 : decode cX5_isKnown 7 = .ok (.ishr, 1) := by decide +kernel
theorem dX5_isKnown_8 : decode cX5_isKnown 8 = .ok (.iconst 1, 1) := by decide +kernel
theorem dX5_isKnown_9 : decode cX5_isKnown 9 = .ok (.iand, 1) := by decide +kernel
theorem dX5_isKnown_10 : decode cX5_isKnown 10 = .ok (.iconst 1, 1) := by decide +kernel
theorem dX5_isKnown_11 : decode cX5_isKnown 11 = .ok (.if_icmp .ne 7, 3) := by decide +kernel
theorem dX5_isKnown_14 : decode cX5_isKnown 14 = .ok (.iconst 1, 1) := by decide +kernel
theorem dX5_isKnown_15 : decode cX5_isKnown 15 = .ok (.goto 4, 3) := by decide +kernel
theorem dX5_isKnown_18 : decode cX5_isKnown 18 = .ok (.iconst 0, 1) := by decide +kernel
theorem dX5_isKnown_19 : decode cX5_isKnown 19 = .ok (.ireturn, 1) := by decide +kernel
theorem dX5_knowers_0 : decode cX5_knowers 0 = .ok (.iconst 0, 1) := by decide +kernel
theorem dX5_knowers_1 : decode cX5_knowers 1 = .ok (.istore_n 2, 1) := by decide +kernel
theorem dX5_knowers_2 : decode cX5_knowers 2 = .ok (.iconst 0, 1) := by decide +kernel
theorem dX5_knowers_3 : decode cX5_knowers 3 = .ok (.istore_n 3, 1) := by decide +kernel
theorem dX5_knowers_4 : decode cX5_knowers 4 = .ok (.iload_n 3, 1) := by decide +kernel
theorem dX5_knowers_5 : decode cX5_knowers 5 = .ok (.bipush 6, 2) := by decide +kernel
theorem dX5_knowers_7 : decode cX5_knowers 7 = .ok (.if_icmp .ge 24, 3) := by decide +kernel
theorem dX5_knowers_10 : decode cX5_knowers 10 = .ok (.aload_n 0, 1) := by decide +kernel
theorem dX5_knowers_11 : decode cX5_knowers 11 = .ok (.iload_n 3, 1) := by decide +kernel
theorem dX5_knowers_12 : decode cX5_knowers 12 = .ok (.iload_n 1, 1) := by decide +kernel
theorem dX5_knowers_13 : decode cX5_knowers 13 = .ok (.invokevirtual 33, 3) := by decide +kernel
theorem dX5_knowers_16 : decode cX5_knowers 16 = .ok (.ifCond .eq 9, 3) := by decide +kernel
theorem dX5_knowers_19 : decode cX5_knowers 19 = .ok (.iload_n 2, 1) := by decide +kernel
theorem dX5_knowers_20 : decode cX5_knowers 20 = .ok (.iconst 1, 1) := by decide +kernel
theorem dX5_knowers_21 : decode cX5_knowers 21 = .ok (.iload_n 3, 1) := by decide +kernel
theorem dX5_knowers_22 : decode cX5_knowers 22 = .ok (.ishl, 1) := by decide +kernel
theorem dX5_knowers_23 : decode cX5_knowers 23 = .ok (.ior, 1) := by decide +kernel
theorem dX5_knowers_24 : decode cX5_knowers 24 = .ok (.istore_n 2, 1) := by decide +kernel
theorem dX5_knowers_25 : decode cX5_knowers 25 = .ok (.iinc 3 1, 3) := by decide +kernel
theorem dX5_knowers_28 : decode cX5_knowers 28 = .ok (.goto (-24), 3) := by decide +kernel
theorem dX5_knowers_31 : decode cX5_knowers 31 = .ok (.iload_n 2, 1) := by decide +kernel
theorem dX5_knowers_32 : decode cX5_knowers 32 = .ok (.ireturn, 1) := by decide +kernel
theorem dX5_knownTogether_0 : decode cX5_knownTogether 0 = .ok (.iconst 0, 1) := by decide +kernel
theorem dX5_knownTogether_1 : decode cX5_knownTogether 1 = .ok (.istore_n 1, 1) := by decide +kernel
theorem dX5_knownTogether_2 : decode cX5_knownTogether 2 = .ok (.iconst 0, 1) := by decide +kernel
theorem dX5_knownTogether_3 : decode cX5_knownTogether 3 = .ok (.istore_n 2, 1) := by decide +kernel
theorem dX5_knownTogether_4 : decode cX5_knownTogether 4 = .ok (.iload_n 2, 1) := by decide +kernel
theorem dX5_knownTogether_5 : decode cX5_knownTogether 5 = .ok (.bipush 6, 2) := by decide +kernel
theorem dX5_knownTogether_7 : decode cX5_knownTogether 7 = .ok (.if_icmp .ge 21, 3) := by decide +kernel
theorem dX5_knownTogether_10 : decode cX5_knownTogether 10 = .ok (.iload_n 1, 1) := by decide +kernel
theorem dX5_knownTogether_11 : decode cX5_knownTogether 11 = .ok (.aload_n 0, 1) := by decide +kernel
theorem dX5_knownTogether_12 : decode cX5_knownTogether 12 = .ok (.getfield 15, 3) := by decide +kernel
theorem dX5_knownTogether_15 : decode cX5_knownTogether 15 = .ok (.iload_n 2, 1) := by decide +kernel
theorem dX5_knownTogether_16 : decode cX5_knownTogether 16 = .ok (.iaload, 1) := by decide +kernel
theorem dX5_knownTogether_17 : decode cX5_knownTogether 17 = .ok (.invokestatic 37, 3) := by decide +kernel
theorem dX5_knownTogether_20 : decode cX5_knownTogether 20 = .ok (.iadd, 1) := by decide +kernel
theorem dX5_knownTogether_21 : decode cX5_knownTogether 21 = .ok (.istore_n 1, 1) := by decide +kernel
theorem dX5_knownTogether_22 : decode cX5_knownTogether 22 = .ok (.iinc 2 1, 3) := by decide +kernel
theorem dX5_knownTogether_25 : decode cX5_knownTogether 25 = .ok (.goto (-21), 3) := by decide +kernel
theorem dX5_knownTogether_28 : decode cX5_knownTogether 28 = .ok (.iload_n 1, 1) := by decide +kernel
theorem dX5_knownTogether_29 : decode cX5_knownTogether 29 = .ok (.ireturn, 1) := by decide +kernel
theorem dX5_atTop_0 : decode cX5_atTop 0 = .ok (.iconst 0, 1) := by decide +kernel
theorem dX5_atTop_1 : decode cX5_atTop 1 = .ok (.istore_n 1, 1) := by decide +kernel
theorem dX5_atTop_2 : decode cX5_atTop 2 = .ok (.iconst 0, 1) := by decide +kernel
theorem dX5_atTop_3 : decode cX5_atTop 3 = .ok (.istore_n 2, 1) := by decide +kernel
theorem dX5_atTop_4 : decode cX5_atTop 4 = .ok (.iload_n 2, 1) := by decide +kernel
theorem dX5_atTop_5 : decode cX5_atTop 5 = .ok (.bipush 6, 2) := by decide +kernel
theorem dX5_atTop_7 : decode cX5_atTop 7 = .ok (.if_icmp .ge 23, 3) := by decide +kernel
theorem dX5_atTop_10 : decode cX5_atTop 10 = .ok (.aload_n 0, 1) := by decide +kernel
theorem dX5_atTop_11 : decode cX5_atTop 11 = .ok (.getfield 18, 3) := by decide +kernel
theorem dX5_atTop_14 : decode cX5_atTop 14 = .ok (.iload_n 2, 1) := by decide +kernel
theorem dX5_atTop_15 : decode cX5_atTop 15 = .ok (.iaload, 1) := by decide +kernel
theorem dX5_atTop_16 : decode cX5_atTop 16 = .ok (.bipush 8, 2) := by decide +kernel
theorem dX5_atTop_18 : decode cX5_atTop 18 = .ok (.if_icmp .ne 6, 3) := by decide +kernel
theorem dX5_atTop_21 : decode cX5_atTop 21 = .ok (.iinc 1 1, 3) := by decide +kernel
theorem dX5_atTop_24 : decode cX5_atTop 24 = .ok (.iinc 2 1, 3) := by decide +kernel
theorem dX5_atTop_27 : decode cX5_atTop 27 = .ok (.goto (-23), 3) := by decide +kernel
theorem dX5_atTop_30 : decode cX5_atTop 30 = .ok (.iload_n 1, 1) := by decide +kernel
theorem dX5_atTop_31 : decode cX5_atTop 31 = .ok (.ireturn, 1) := by decide +kernel
theorem dX5_toldOn_0 : decode cX5_toldOn 0 = .ok (.iconst 0, 1) := by decide +kernel
theorem dX5_toldOn_1 : decode cX5_toldOn 1 = .ok (.istore_n 2, 1) := by decide +kernel
theorem dX5_toldOn_2 : decode cX5_toldOn 2 = .ok (.iconst 0, 1) := by decide +kernel
theorem dX5_toldOn_3 : decode cX5_toldOn 3 = .ok (.istore_n 3, 1) := by decide +kernel
theorem dX5_toldOn_4 : decode cX5_toldOn 4 = .ok (.iload_n 3, 1) := by decide +kernel
theorem dX5_toldOn_5 : decode cX5_toldOn 5 = .ok (.bipush 7, 2) := by decide +kernel
theorem dX5_toldOn_7 : decode cX5_toldOn 7 = .ok (.if_icmp .ge 63, 3) := by decide +kernel
theorem dX5_toldOn_10 : decode cX5_toldOn 10 = .ok (.iload_n 1, 1) := by decide +kernel
theorem dX5_toldOn_11 : decode cX5_toldOn 11 = .ok (.aload_n 0, 1) := by decide +kernel
theorem dX5_toldOn_12 : decode cX5_toldOn 12 = .ok (.getfield 26, 3) := by decide +kernel
theorem dX5_toldOn_15 : decode cX5_toldOn 15 = .ok (.iand, 1) := by decide +kernel
theorem dX5_toldOn_16 : decode cX5_toldOn 16 = .ok (.iconst 1, 1) := by decide +kernel
theorem dX5_toldOn_17 : decode cX5_toldOn 17 = .ok (.iload_n 3, 1) := by decide +kernel
theorem dX5_toldOn_18 : decode cX5_toldOn 18 = .ok (.ishl, 1) := by decide +kernel
theorem dX5_toldOn_19 : decode cX5_toldOn 19 = .ok (.iand, 1) := by decide +kernel
theorem dX5_toldOn_20 : decode cX5_toldOn 20 = .ok (.ifCond .eq 7, 3) := by decide +kernel
theorem dX5_toldOn_23 : decode cX5_toldOn 23 = .ok (.iconst 1, 1) := by decide +kernel
theorem dX5_toldOn_24 : decode cX5_toldOn 24 = .ok (.goto 4, 3) := by decide +kernel
theorem dX5_toldOn_27 : decode cX5_toldOn 27 = .ok (.iconst 0, 1) := by decide +kernel
theorem dX5_toldOn_28 : decode cX5_toldOn 28 = .ok (.istore 4, 2) := by decide +kernel
theorem dX5_toldOn_30 : decode cX5_toldOn 30 = .ok (.aload_n 0, 1) := by decide +kernel
theorem dX5_toldOn_31 : decode cX5_toldOn 31 = .ok (.getfield 9, 3) := by decide +kernel
theorem dX5_toldOn_34 : decode cX5_toldOn 34 = .ok (.iload_n 3, 1) := by decide +kernel
theorem dX5_toldOn_35 : decode cX5_toldOn 35 = .ok (.iconst 1, 1) := by decide +kernel
theorem dX5_toldOn_36 : decode cX5_toldOn 36 = .ok (.iadd, 1) := by decide +kernel
theorem dX5_toldOn_37 : decode cX5_toldOn 37 = .ok (.iaload, 1) := by decide +kernel
theorem dX5_toldOn_38 : decode cX5_toldOn 38 = .ok (.istore 5, 2) := by decide +kernel
theorem dX5_toldOn_40 : decode cX5_toldOn 40 = .ok (.iload 4, 2) := by decide +kernel
theorem dX5_toldOn_42 : decode cX5_toldOn 42 = .ok (.ifCond .eq 22, 3) := by decide +kernel
theorem dX5_toldOn_45 : decode cX5_toldOn 45 = .ok (.iload 5, 2) := by decide +kernel
theorem dX5_toldOn_47 : decode cX5_toldOn 47 = .ok (.ifCond .eq 9, 3) := by decide +kernel
theorem dX5_toldOn_50 : decode cX5_toldOn 50 = .ok (.iload 5, 2) := by decide +kernel
theorem dX5_toldOn_52 : decode cX5_toldOn 52 = .ok (.iconst 4, 1) := by decide +kernel
theorem dX5_toldOn_53 : decode cX5_toldOn 53 = .ok (.if_icmp .ne 11, 3) := by decide +kernel
theorem dX5_toldOn_56 : decode cX5_toldOn 56 = .ok (.iload_n 2, 1) := by decide +kernel
theorem dX5_toldOn_57 : decode cX5_toldOn 57 = .ok (.iconst 1, 1) := by decide +kernel
theorem dX5_toldOn_58 : decode cX5_toldOn 58 = .ok (.iload_n 3, 1) := by decide +kernel
theorem dX5_toldOn_59 : decode cX5_toldOn 59 = .ok (.iconst 1, 1) := by decide +kernel
theorem dX5_toldOn_60 : decode cX5_toldOn 60 = .ok (.iadd, 1) := by decide +kernel
theorem dX5_toldOn_61 : decode cX5_toldOn 61 = .ok (.ishl, 1) := by decide +kernel
theorem dX5_toldOn_62 : decode cX5_toldOn 62 = .ok (.ior, 1) := by decide +kernel
theorem dX5_toldOn_63 : decode cX5_toldOn 63 = .ok (.istore_n 2, 1) := by decide +kernel
theorem dX5_toldOn_64 : decode cX5_toldOn 64 = .ok (.iinc 3 1, 3) := by decide +kernel
theorem dX5_toldOn_67 : decode cX5_toldOn 67 = .ok (.goto (-63), 3) := by decide +kernel
theorem dX5_toldOn_70 : decode cX5_toldOn 70 = .ok (.iload_n 1, 1) := by decide +kernel
theorem dX5_toldOn_71 : decode cX5_toldOn 71 = .ok (.iload_n 2, 1) := by decide +kernel
theorem dX5_toldOn_72 : decode cX5_toldOn 72 = .ok (.ior, 1) := by decide +kernel
theorem dX5_toldOn_73 : decode cX5_toldOn 73 = .ok (.ireturn, 1) := by decide +kernel
theorem dX5_passMinute_0 : decode cX5_passMinute 0 = .ok (.iconst 0, 1) := by decide +kernel
theorem dX5_passMinute_1 : decode cX5_passMinute 1 = .ok (.istore_n 1, 1) := by decide +kernel
theorem dX5_passMinute_2 : decode cX5_passMinute 2 = .ok (.iload_n 1, 1) := by decide +kernel
theorem dX5_passMinute_3 : decode cX5_passMinute 3 = .ok (.bipush 6, 2) := by decide +kernel
theorem dX5_passMinute_5 : decode cX5_passMinute 5 = .ok (.if_icmp .ge 25, 3) := by decide +kernel
theorem dX5_passMinute_8 : decode cX5_passMinute 8 = .ok (.aload_n 0, 1) := by decide +kernel
theorem dX5_passMinute_9 : decode cX5_passMinute 9 = .ok (.getfield 15, 3) := by decide +kernel
theorem dX5_passMinute_12 : decode cX5_passMinute 12 = .ok (.iload_n 1, 1) := by decide +kernel
theorem dX5_passMinute_13 : decode cX5_passMinute 13 = .ok (.aload_n 0, 1) := by decide +kernel
theorem dX5_passMinute_14 : decode cX5_passMinute 14 = .ok (.aload_n 0, 1) := by decide +kernel
theorem dX5_passMinute_15 : decode cX5_passMinute 15 = .ok (.getfield 15, 3) := by decide +kernel
theorem dX5_passMinute_18 : decode cX5_passMinute 18 = .ok (.iload_n 1, 1) := by decide +kernel
theorem dX5_passMinute_19 : decode cX5_passMinute 19 = .ok (.iaload, 1) := by decide +kernel
theorem dX5_passMinute_20 : decode cX5_passMinute 20 = .ok (.invokevirtual 43, 3) := by decide +kernel
theorem dX5_passMinute_23 : decode cX5_passMinute 23 = .ok (.iastore, 1) := by decide +kernel
theorem dX5_passMinute_24 : decode cX5_passMinute 24 = .ok (.iinc 1 1, 3) := by decide +kernel
theorem dX5_passMinute_27 : decode cX5_passMinute 27 = .ok (.goto (-25), 3) := by decide +kernel
theorem dX5_passMinute_30 : decode cX5_passMinute 30 = .ok (.aload_n 0, 1) := by decide +kernel
theorem dX5_passMinute_31 : decode cX5_passMinute 31 = .ok (.dup, 1) := by decide +kernel
theorem dX5_passMinute_32 : decode cX5_passMinute 32 = .ok (.getfield 30, 3) := by decide +kernel
theorem dX5_passMinute_35 : decode cX5_passMinute 35 = .ok (.iconst 1, 1) := by decide +kernel
theorem dX5_passMinute_36 : decode cX5_passMinute 36 = .ok (.iadd, 1) := by decide +kernel
theorem dX5_passMinute_37 : decode cX5_passMinute 37 = .ok (.putfield 30, 3) := by decide +kernel
theorem dX5_passMinute_40 : decode cX5_passMinute 40 = .ok (.return_, 1) := by decide +kernel
theorem dX5_passMinutes_0 : decode cX5_passMinutes 0 = .ok (.iconst 0, 1) := by decide +kernel
theorem dX5_passMinutes_1 : decode cX5_passMinutes 1 = .ok (.istore_n 2, 1) := by decide +kernel
theorem dX5_passMinutes_2 : decode cX5_passMinutes 2 = .ok (.iload_n 2, 1) := by decide +kernel
theorem dX5_passMinutes_3 : decode cX5_passMinutes 3 = .ok (.iload_n 1, 1) := by decide +kernel
theorem dX5_passMinutes_4 : decode cX5_passMinutes 4 = .ok (.if_icmp .ge 23, 3) := by decide +kernel
theorem dX5_passMinutes_7 : decode cX5_passMinutes 7 = .ok (.aload_n 0, 1) := by decide +kernel
theorem dX5_passMinutes_8 : decode cX5_passMinutes 8 = .ok (.getfield 30, 3) := by decide +kernel
theorem dX5_passMinutes_11 : decode cX5_passMinutes 11 = .ok (.sipush 9999, 3) := by decide +kernel
theorem dX5_passMinutes_14 : decode cX5_passMinutes 14 = .ok (.if_icmp .ge 13, 3) := by decide +kernel
theorem dX5_passMinutes_17 : decode cX5_passMinutes 17 = .ok (.aload_n 0, 1) := by decide +kernel
theorem dX5_passMinutes_18 : decode cX5_passMinutes 18 = .ok (.invokevirtual 46, 3) := by decide +kernel
theorem dX5_passMinutes_21 : decode cX5_passMinutes 21 = .ok (.iinc 2 1, 3) := by decide +kernel
theorem dX5_passMinutes_24 : decode cX5_passMinutes 24 = .ok (.goto (-22), 3) := by decide +kernel
theorem dX5_passMinutes_27 : decode cX5_passMinutes 27 = .ok (.return_, 1) := by decide +kernel
theorem dX5_learn_0 : decode cX5_learn 0 = .ok (.iload_n 1, 1) := by decide +kernel
theorem dX5_learn_1 : decode cX5_learn 1 = .ok (.iconst 0, 1) := by decide +kernel
theorem dX5_learn_2 : decode cX5_learn 2 = .ok (.iconst 5, 1) := by decide +kernel
theorem dX5_learn_3 : decode cX5_learn 3 = .ok (.invokestatic 49, 3) := by decide +kernel
theorem dX5_learn_6 : decode cX5_learn 6 = .ok (.ifCond .eq 15, 3) := by decide +kernel
theorem dX5_learn_9 : decode cX5_learn 9 = .ok (.aload_n 0, 1) := by decide +kernel
theorem dX5_learn_10 : decode cX5_learn 10 = .ok (.getfield 15, 3) := by decide +kernel
theorem dX5_learn_13 : decode cX5_learn 13 = .ok (.iload_n 1, 1) := by decide +kernel
theorem dX5_learn_14 : decode cX5_learn 14 = .ok (.dup2, 1) := by decide +kernel
theorem dX5_learn_15 : decode cX5_learn 15 = .ok (.iaload, 1) := by decide +kernel
theorem dX5_learn_16 : decode cX5_learn 16 = .ok (.iconst 1, 1) := by decide +kernel
theorem dX5_learn_17 : decode cX5_learn 17 = .ok (.iload_n 2, 1) := by decide +kernel
theorem dX5_learn_18 : decode cX5_learn 18 = .ok (.ishl, 1) := by decide +kernel
theorem dX5_learn_19 : decode cX5_learn 19 = .ok (.ior, 1) := by decide +kernel
theorem dX5_learn_20 : decode cX5_learn 20 = .ok (.iastore, 1) := by decide +kernel
theorem dX5_learn_21 : decode cX5_learn 21 = .ok (.return_, 1) := by decide +kernel
theorem dX5_stayAt_0 : decode cX5_stayAt 0 = .ok (.iload_n 1, 1) := by decide +kernel
theorem dX5_stayAt_1 : decode cX5_stayAt 1 = .ok (.iconst 0, 1) := by decide +kernel
theorem dX5_stayAt_2 : decode cX5_stayAt 2 = .ok (.iconst 5, 1) := by decide +kernel
theorem dX5_stayAt_3 : decode cX5_stayAt 3 = .ok (.invokestatic 49, 3) := by decide +kernel
theorem dX5_stayAt_6 : decode cX5_stayAt 6 = .ok (.ifCond .eq 10, 3) := by decide +kernel
theorem dX5_stayAt_9 : decode cX5_stayAt 9 = .ok (.aload_n 0, 1) := by decide +kernel
theorem dX5_stayAt_10 : decode cX5_stayAt 10 = .ok (.getfield 18, 3) := by decide +kernel
theorem dX5_stayAt_13 : decode cX5_stayAt 13 = .ok (.iload_n 1, 1) := by decide +kernel
theorem dX5_stayAt_14 : decode cX5_stayAt 14 = .ok (.iload_n 2, 1) := by decide +kernel
theorem dX5_stayAt_15 : decode cX5_stayAt 15 = .ok (.iastore, 1) := by decide +kernel
theorem dX5_stayAt_16 : decode cX5_stayAt 16 = .ok (.return_, 1) := by decide +kernel
theorem dX5_putIn_0 : decode cX5_putIn 0 = .ok (.aload_n 0, 1) := by decide +kernel
theorem dX5_putIn_1 : decode cX5_putIn 1 = .ok (.getfield 9, 3) := by decide +kernel
theorem dX5_putIn_4 : decode cX5_putIn 4 = .ok (.iload_n 1, 1) := by decide +kernel
theorem dX5_putIn_5 : decode cX5_putIn 5 = .ok (.iload_n 2, 1) := by decide +kernel
theorem dX5_putIn_6 : decode cX5_putIn 6 = .ok (.iastore, 1) := by decide +kernel
theorem dX5_putIn_7 : decode cX5_putIn 7 = .ok (.iconst 0, 1) := by decide +kernel
theorem dX5_putIn_8 : decode cX5_putIn 8 = .ok (.istore_n 3, 1) := by decide +kernel
theorem dX5_putIn_9 : decode cX5_putIn 9 = .ok (.iload_n 3, 1) := by decide +kernel
theorem dX5_putIn_10 : decode cX5_putIn 10 = .ok (.bipush 6, 2) := by decide +kernel
theorem dX5_putIn_12 : decode cX5_putIn 12 = .ok (.if_icmp .ge 23, 3) := by decide +kernel
theorem dX5_putIn_15 : decode cX5_putIn 15 = .ok (.aload_n 0, 1) := by decide +kernel
theorem dX5_putIn_16 : decode cX5_putIn 16 = .ok (.getfield 15, 3) := by decide +kernel
theorem dX5_putIn_19 : decode cX5_putIn 19 = .ok (.iload_n 3, 1) := by decide +kernel
theorem dX5_putIn_20 : decode cX5_putIn 20 = .ok (.dup2, 1) := by decide +kernel
theorem dX5_putIn_21 : decode cX5_putIn 21 = .ok (.iaload, 1) := by decide +kernel
theorem dX5_putIn_22 : decode cX5_putIn 22 = .ok (.iconst 1, 1) := by decide +kernel
theorem dX5_putIn_23 : decode cX5_putIn 23 = .ok (.iload_n 1, 1) := by decide +kernel
theorem dX5_putIn_24 : decode cX5_putIn 24 = .ok (.ishl, 1) := by decide +kernel
theorem dX5_putIn_25 : decode cX5_putIn 25 = .ok (.iconst (-1), 1) := by decide +kernel
theorem dX5_putIn_26 : decode cX5_putIn 26 = .ok (.ixor, 1) := by decide +kernel
theorem dX5_putIn_27 : decode cX5_putIn 27 = .ok (.iand, 1) := by decide +kernel
theorem dX5_putIn_28 : decode cX5_putIn 28 = .ok (.iastore, 1) := by decide +kernel
theorem dX5_putIn_29 : decode cX5_putIn 29 = .ok (.iinc 3 1, 3) := by decide +kernel
theorem dX5_putIn_32 : decode cX5_putIn 32 = .ok (.goto (-23), 3) := by decide +kernel
theorem dX5_putIn_35 : decode cX5_putIn 35 = .ok (.return_, 1) := by decide +kernel
theorem dX5_bearsAbove_0 : decode cX5_bearsAbove 0 = .ok (.iload_n 2, 1) := by decide +kernel
theorem dX5_bearsAbove_1 : decode cX5_bearsAbove 1 = .ok (.bipush 7, 2) := by decide +kernel
theorem dX5_bearsAbove_3 : decode cX5_bearsAbove 3 = .ok (.if_icmp .ge 14, 3) := by decide +kernel
theorem dX5_bearsAbove_6 : decode cX5_bearsAbove 6 = .ok (.aload_n 0, 1) := by decide +kernel
theorem dX5_bearsAbove_7 : decode cX5_bearsAbove 7 = .ok (.iload_n 1, 1) := by decide +kernel
theorem dX5_bearsAbove_8 : decode cX5_bearsAbove 8 = .ok (.iload_n 2, 1) := by decide +kernel
theorem dX5_bearsAbove_9 : decode cX5_bearsAbove 9 = .ok (.iconst 1, 1) := by decide +kernel
theorem dX5_bearsAbove_10 : decode cX5_bearsAbove 10 = .ok (.iadd, 1) := by decide +kernel
theorem dX5_bearsAbove_11 : decode cX5_bearsAbove 11 = .ok (.invokevirtual 33, 3) := by decide +kernel
theorem dX5_bearsAbove_14 : decode cX5_bearsAbove 14 = .ok (.ifCond .eq 7, 3) := by decide +kernel
theorem dX5_bearsAbove_17 : decode cX5_bearsAbove 17 = .ok (.iconst 1, 1) := by decide +kernel
theorem dX5_bearsAbove_18 : decode cX5_bearsAbove 18 = .ok (.goto 4, 3) := by decide +kernel
theorem dX5_bearsAbove_21 : decode cX5_bearsAbove 21 = .ok (.iconst 0, 1) := by decide +kernel
theorem dX5_bearsAbove_22 : decode cX5_bearsAbove 22 = .ok (.ireturn, 1) := by decide +kernel
theorem dX5_walk_0 : decode cX5_walk 0 = .ok (.aload_n 0, 1) := by decide +kernel
theorem dX5_walk_1 : decode cX5_walk 1 = .ok (.getfield 18, 3) := by decide +kernel
theorem dX5_walk_4 : decode cX5_walk 4 = .ok (.iload_n 1, 1) := by decide +kernel
theorem dX5_walk_5 : decode cX5_walk 5 = .ok (.iaload, 1) := by decide +kernel
theorem dX5_walk_6 : decode cX5_walk 6 = .ok (.istore_n 3, 1) := by decide +kernel
theorem dX5_walk_7 : decode cX5_walk 7 = .ok (.iload_n 2, 1) := by decide +kernel
theorem dX5_walk_8 : decode cX5_walk 8 = .ok (.ifCond .ne 15, 3) := by decide +kernel
theorem dX5_walk_11 : decode cX5_walk 11 = .ok (.aload_n 0, 1) := by decide +kernel
theorem dX5_walk_12 : decode cX5_walk 12 = .ok (.getfield 18, 3) := by decide +kernel
theorem dX5_walk_15 : decode cX5_walk 15 = .ok (.iload_n 1, 1) := by decide +kernel
theorem dX5_walk_16 : decode cX5_walk 16 = .ok (.iload_n 3, 1) := by decide +kernel
theorem dX5_walk_17 : decode cX5_walk 17 = .ok (.iconst 1, 1) := by decide +kernel
theorem dX5_walk_18 : decode cX5_walk 18 = .ok (.isub, 1) := by decide +kernel
theorem dX5_walk_19 : decode cX5_walk 19 = .ok (.iastore, 1) := by decide +kernel
theorem dX5_walk_20 : decode cX5_walk 20 = .ok (.goto 21, 3) := by decide +kernel
theorem dX5_walk_23 : decode cX5_walk 23 = .ok (.aload_n 0, 1) := by decide +kernel
theorem dX5_walk_24 : decode cX5_walk 24 = .ok (.iload_n 1, 1) := by decide +kernel
theorem dX5_walk_25 : decode cX5_walk 25 = .ok (.iload_n 3, 1) := by decide +kernel
theorem dX5_walk_26 : decode cX5_walk 26 = .ok (.invokevirtual 53, 3) := by decide +kernel
theorem dX5_walk_29 : decode cX5_walk 29 = .ok (.ifCond .eq 12, 3) := by decide +kernel
theorem dX5_walk_32 : decode cX5_walk 32 = .ok (.aload_n 0, 1) := by decide +kernel
theorem dX5_walk_33 : decode cX5_walk 33 = .ok (.getfield 18, 3) := by decide +kernel
theorem dX5_walk_36 : decode cX5_walk 36 = .ok (.iload_n 1, 1) := by decide +kernel
theorem dX5_walk_37 : decode cX5_walk 37 = .ok (.iload_n 3, 1) := by decide +kernel
theorem dX5_walk_38 : decode cX5_walk 38 = .ok (.iconst 1, 1) := by decide +kernel
theorem dX5_walk_39 : decode cX5_walk 39 = .ok (.iadd, 1) := by decide +kernel
theorem dX5_walk_40 : decode cX5_walk 40 = .ok (.iastore, 1) := by decide +kernel
theorem dX5_walk_41 : decode cX5_walk 41 = .ok (.return_, 1) := by decide +kernel
theorem dX5_highest_0 : decode cX5_highest 0 = .ok (.aload_n 0, 1) := by decide +kernel
theorem dX5_highest_1 : decode cX5_highest 1 = .ok (.getfield 18, 3) := by decide +kernel
theorem dX5_highest_4 : decode cX5_highest 4 = .ok (.iload_n 1, 1) := by decide +kernel
theorem dX5_highest_5 : decode cX5_highest 5 = .ok (.iaload, 1) := by decide +kernel
theorem dX5_highest_6 : decode cX5_highest 6 = .ok (.istore_n 2, 1) := by decide +kernel
theorem dX5_highest_7 : decode cX5_highest 7 = .ok (.iload_n 2, 1) := by decide +kernel
theorem dX5_highest_8 : decode cX5_highest 8 = .ok (.bipush 8, 2) := by decide +kernel
theorem dX5_highest_10 : decode cX5_highest 10 = .ok (.if_icmp .ge 20, 3) := by decide +kernel
theorem dX5_highest_13 : decode cX5_highest 13 = .ok (.aload_n 0, 1) := by decide +kernel
theorem dX5_highest_14 : decode cX5_highest 14 = .ok (.iload_n 1, 1) := by decide +kernel
theorem dX5_highest_15 : decode cX5_highest 15 = .ok (.iload_n 2, 1) := by decide +kernel
theorem dX5_highest_16 : decode cX5_highest 16 = .ok (.invokevirtual 53, 3) := by decide +kernel
theorem dX5_highest_19 : decode cX5_highest 19 = .ok (.ifCond .ne 5, 3) := by decide +kernel
theorem dX5_highest_22 : decode cX5_highest 22 = .ok (.iload_n 2, 1) := by decide +kernel
theorem dX5_highest_23 : decode cX5_highest 23 = .ok (.ireturn, 1) := by decide +kernel
theorem dX5_highest_24 : decode cX5_highest 24 = .ok (.iinc 2 1, 3) := by decide +kernel
theorem dX5_highest_27 : decode cX5_highest 27 = .ok (.goto (-20), 3) := by decide +kernel
theorem dX5_highest_30 : decode cX5_highest 30 = .ok (.bipush 8, 2) := by decide +kernel
theorem dX5_highest_32 : decode cX5_highest 32 = .ok (.ireturn, 1) := by decide +kernel
theorem dX6_init_0 : decode cX6_init 0 = .ok (.aload_n 0, 1) := by decide +kernel
theorem dX6_init_1 : decode cX6_init 1 = .ok (.invokespecial 3, 3) := by decide +kernel
theorem dX6_init_4 : decode cX6_init 4 = .ok (.return_, 1) := by decide +kernel
theorem dX6_answer_0 : decode cX6_answer 0 = .ok (.iconst 1, 1) := by decide +kernel
theorem dX6_answer_1 : decode cX6_answer 1 = .ok (.istore 4, 2) := by decide +kernel
theorem dX6_answer_3 : decode cX6_answer 3 = .ok (.iload 4, 2) := by decide +kernel
theorem dX6_answer_5 : decode cX6_answer 5 = .ok (.iconst 1, 1) := by decide +kernel
theorem dX6_answer_6 : decode cX6_answer 6 = .ok (.iadd, 1) := by decide +kernel
theorem dX6_answer_7 : decode cX6_answer 7 = .ok (.istore 5, 2) := by decide +kernel
theorem dX6_answer_9 : decode cX6_answer 9 = .ok (.iload 4, 2) := by decide +kernel
theorem dX6_answer_11 : decode cX6_answer 11 = .ok (.iload_n 2, 1) := by decide +kernel
theorem dX6_answer_12 : decode cX6_answer 12 = .ok (.iconst 4, 1) := by decide +kernel
theorem dX6_answer_13 : decode cX6_answer 13 = .ok (.idiv, 1) := by decide +kernel
theorem dX6_answer_14 : decode cX6_answer 14 = .ok (.iadd, 1) := by decide +kernel
theorem dX6_answer_15 : decode cX6_answer 15 = .ok (.istore 6, 2) := by decide +kernel
theorem dX6_answer_17 : decode cX6_answer 17 = .ok (.iload_n 1, 1) := by decide +kernel
theorem dX6_answer_18 : decode cX6_answer 18 = .ok (.tableswitch 72 0 4 #[34, 37, 40, 43, 60], 34) := by decide +kernel
theorem dX6_answer_52 : decode cX6_answer 52 = .ok (.iload 4, 2) := by decide +kernel
theorem dX6_answer_54 : decode cX6_answer 54 = .ok (.ireturn, 1) := by decide +kernel
theorem dX6_answer_55 : decode cX6_answer 55 = .ok (.iload 5, 2) := by decide +kernel
theorem dX6_answer_57 : decode cX6_answer 57 = .ok (.ireturn, 1) := by decide +kernel
theorem dX6_answer_58 : decode cX6_answer 58 = .ok (.iload 6, 2) := by decide +kernel
theorem dX6_answer_60 : decode cX6_answer 60 = .ok (.ireturn, 1) := by decide +kernel
theorem dX6_answer_61 : decode cX6_answer 61 = .ok (.iload_n 3, 1) := by decide +kernel
theorem dX6_answer_62 : decode cX6_answer 62 = .ok (.iconst 2, 1) := by decide +kernel
theorem dX6_answer_63 : decode cX6_answer 63 = .ok (.irem, 1) := by decide +kernel
theorem dX6_answer_64 : decode cX6_answer 64 = .ok (.iconst 1, 1) := by decide +kernel
theorem dX6_answer_65 : decode cX6_answer 65 = .ok (.if_icmp .ne 10, 3) := by decide +kernel
theorem dX6_answer_68 : decode cX6_answer 68 = .ok (.iload 5, 2) := by decide +kernel
theorem dX6_answer_70 : decode cX6_answer 70 = .ok (.iconst 2, 1) := by decide +kernel
theorem dX6_answer_71 : decode cX6_answer 71 = .ok (.iadd, 1) := by decide +kernel
theorem dX6_answer_72 : decode cX6_answer 72 = .ok (.goto 5, 3) := by decide +kernel
theorem dX6_answer_75 : decode cX6_answer 75 = .ok (.iload 5, 2) := by decide +kernel
theorem dX6_answer_77 : decode cX6_answer 77 = .ok (.ireturn, 1) := by decide +kernel
theorem dX6_answer_78 : decode cX6_answer 78 = .ok (.iload_n 2, 1) := by decide +kernel
theorem dX6_answer_79 : decode cX6_answer 79 = .ok (.iconst 5, 1) := by decide +kernel
theorem dX6_answer_80 : decode cX6_answer 80 = .ok (.if_icmp .gt 7, 3) := by decide +kernel
theorem dX6_answer_83 : decode cX6_answer 83 = .ok (.iconst 0, 1) := by decide +kernel
theorem dX6_answer_84 : decode cX6_answer 84 = .ok (.goto 5, 3) := by decide +kernel
theorem dX6_answer_87 : decode cX6_answer 87 = .ok (.iload 4, 2) := by decide +kernel
theorem dX6_answer_89 : decode cX6_answer 89 = .ok (.ireturn, 1) := by decide +kernel
theorem dX6_answer_90 : decode cX6_answer 90 = .ok (.iconst 2, 1) := by decide +kernel
theorem dX6_answer_91 : decode cX6_answer 91 = .ok (.iload 6, 2) := by decide +kernel
theorem dX6_answer_93 : decode cX6_answer 93 = .ok (.imul, 1) := by decide +kernel
theorem dX6_answer_94 : decode cX6_answer 94 = .ok (.iconst 5, 1) := by decide +kernel
theorem dX6_answer_95 : decode cX6_answer 95 = .ok (.invokestatic 9, 3) := by decide +kernel
theorem dX6_answer_98 : decode cX6_answer 98 = .ok (.ireturn, 1) := by decide +kernel
theorem dX6_bestQuestion_0 : decode cX6_bestQuestion 0 = .ok (.iconst (-1), 1) := by decide +kernel
theorem dX6_bestQuestion_1 : decode cX6_bestQuestion 1 = .ok (.istore_n 2, 1) := by decide +kernel
theorem dX6_bestQuestion_2 : decode cX6_bestQuestion 2 = .ok (.bipush 7, 2) := by decide +kernel
theorem dX6_bestQuestion_4 : decode cX6_bestQuestion 4 = .ok (.istore_n 3, 1) := by decide +kernel
theorem dX6_bestQuestion_5 : decode cX6_bestQuestion 5 = .ok (.iconst 0, 1) := by decide +kernel
theorem dX6_bestQuestion_6 : decode cX6_bestQuestion 6 = .ok (.istore 4, 2) := by decide +kernel
theorem dX6_bestQuestion_8 : decode cX6_bestQuestion 8 = .ok (.iload 4, 2) := by decide +kernel
theorem dX6_bestQuestion_10 : decode cX6_bestQuestion 10 = .ok (.iconst 1, 1) := by decide +kernel
theorem dX6_bestQuestion_11 : decode cX6_bestQuestion 11 = .ok (.if_icmp .gt 54, 3) := by decide +kernel
theorem dX6_bestQuestion_14 : decode cX6_bestQuestion 14 = .ok (.iconst 1, 1) := by decide +kernel
theorem dX6_bestQuestion_15 : decode cX6_bestQuestion 15 = .ok (.istore 5, 2) := by decide +kernel
theorem dX6_bestQuestion_17 : decode cX6_bestQuestion 17 = .ok (.iload 5, 2) := by decide +kernel
theorem dX6_bestQuestion_19 : decode cX6_bestQuestion 19 = .ok (.bipush 12, 2) := by decide +kernel
theorem dX6_bestQuestion_21 : decode cX6_bestQuestion 21 = .ok (.if_icmp .gt 38, 3) := by decide +kernel
theorem dX6_bestQuestion_24 : decode cX6_bestQuestion 24 = .ok (.aload_n 0, 1) := by decide +kernel
theorem dX6_bestQuestion_25 : decode cX6_bestQuestion 25 = .ok (.iload_n 1, 1) := by decide +kernel
theorem dX6_bestQuestion_26 : decode cX6_bestQuestion 26 = .ok (.iload 5, 2) := by decide +kernel
theorem dX6_bestQuestion_28 : decode cX6_bestQuestion 28 = .ok (.iload 4, 2) := by decide +kernel
theorem dX6_bestQuestion_30 : decode cX6_bestQuestion 30 = .ok (.invokevirtual 15, 3) := by decide +kernel
theorem dX6_bestQuestion_33 : decode cX6_bestQuestion 33 = .ok (.istore 6, 2) := by decide +kernel
theorem dX6_bestQuestion_35 : decode cX6_bestQuestion 35 = .ok (.iload 6, 2) := by decide +kernel
theorem dX6_bestQuestion_37 : decode cX6_bestQuestion 37 = .ok (.iload_n 3, 1) := by decide +kernel
theorem dX6_bestQuestion_38 : decode cX6_bestQuestion 38 = .ok (.if_icmp .ge 15, 3) := by decide +kernel
theorem dX6_bestQuestion_41 : decode cX6_bestQuestion 41 = .ok (.iload 6, 2) := by decide +kernel
theorem dX6_bestQuestion_43 : decode cX6_bestQuestion 43 = .ok (.istore_n 3, 1) := by decide +kernel
theorem dX6_bestQuestion_44 : decode cX6_bestQuestion 44 = .ok (.bipush 100, 2) := by decide +kernel
theorem dX6_bestQuestion_46 : decode cX6_bestQuestion 46 = .ok (.iload 4, 2) := by decide +kernel
theorem dX6_bestQuestion_48 : decode cX6_bestQuestion 48 = .ok (.imul, 1) := by decide +kernel
theorem dX6_bestQuestion_49 : decode cX6_bestQuestion 49 = .ok (.iload 5, 2) := by decide +kernel
theorem dX6_bestQuestion_51 : decode cX6_bestQuestion 51 = .ok (.iadd, 1) := by decide +kernel
theorem dX6_bestQuestion_52 : decode cX6_bestQuestion 52 = .ok (.istore_n 2, 1) := by decide +kernel
theorem dX6_bestQuestion_53 : decode cX6_bestQuestion 53 = .ok (.iinc 5 1, 3) := by decide +kernel
theorem dX6_bestQuestion_56 : decode cX6_bestQuestion 56 = .ok (.goto (-39), 3) := by decide +kernel
theorem dX6_bestQuestion_59 : decode cX6_bestQuestion 59 = .ok (.iinc 4 1, 3) := by decide +kernel
theorem dX6_bestQuestion_62 : decode cX6_bestQuestion 62 = .ok (.goto (-54), 3) := by decide +kernel
theorem dX6_bestQuestion_65 : decode cX6_bestQuestion 65 = .ok (.iload_n 2, 1) := by decide +kernel
theorem dX6_bestQuestion_66 : decode cX6_bestQuestion 66 = .ok (.ireturn, 1) := by decide +kernel
theorem dX7_init_0 : decode cX7_init 0 = .ok (.aload_n 0, 1) := by decide +kernel
theorem dX7_init_1 : decode cX7_init 1 = .ok (.invokespecial 3, 3) := by decide +kernel
theorem dX7_init_4 : decode cX7_init 4 = .ok (.aload_n 0, 1) := by decide +kernel
theorem dX7_init_5 : decode cX7_init 5 = .ok (.iconst 0, 1) := by decide +kernel
theorem dX7_init_6 : decode cX7_init 6 = .ok (.putfield 9, 3) := by decide +kernel
theorem dX7_init_9 : decode cX7_init 9 = .ok (.aload_n 0, 1) := by decide +kernel
theorem dX7_init_10 : decode cX7_init 10 = .ok (.sipush 150, 3) := by decide +kernel
theorem dX7_init_13 : decode cX7_init 13 = .ok (.newarray .int, 2) := by decide +kernel
theorem dX7_init_15 : decode cX7_init 15 = .ok (.putfield 15, 3) := by decide +kernel
theorem dX7_init_18 : decode cX7_init 18 = .ok (.aload_n 0, 1) := by decide +kernel
theorem dX7_init_19 : decode cX7_init 19 = .ok (.iconst 0, 1) := by decide +kernel
theorem dX7_init_20 : decode cX7_init 20 = .ok (.putfield 19, 3) := by decide +kernel
theorem dX7_init_23 : decode cX7_init 23 = .ok (.aload_n 0, 1) := by decide +kernel
theorem dX7_init_24 : decode cX7_init 24 = .ok (.iconst 0, 1) := by decide +kernel
theorem dX7_init_25 : decode cX7_init 25 = .ok (.putfield 22, 3) := by decide +kernel
theorem dX7_init_28 : decode cX7_init 28 = .ok (.aload_n 0, 1) := by decide +kernel
theorem dX7_init_29 : decode cX7_init 29 = .ok (.iconst 0, 1) := by decide +kernel
theorem dX7_init_30 : decode cX7_init 30 = .ok (.putfield 25, 3) := by decide +kernel
theorem dX7_init_33 : decode cX7_init 33 = .ok (.aload_n 0, 1) := by decide +kernel
theorem dX7_init_34 : decode cX7_init 34 = .ok (.iconst 0, 1) := by decide +kernel
theorem dX7_init_35 : decode cX7_init 35 = .ok (.putfield 28, 3) := by decide +kernel
theorem dX7_init_38 : decode cX7_init 38 = .ok (.aload_n 0, 1) := by decide +kernel
theorem dX7_init_39 : decode cX7_init 39 = .ok (.iconst (-1), 1) := by decide +kernel
theorem dX7_init_40 : decode cX7_init 40 = .ok (.putfield 31, 3) := by decide +kernel
theorem dX7_init_43 : decode cX7_init 43 = .ok (.aload_n 0, 1) := by decide +kernel
theorem dX7_init_44 : decode cX7_init 44 = .ok (.iconst 0, 1) := by decide +kernel
theorem dX7_init_45 : decode cX7_init 45 = .ok (.putfield 34, 3) := by decide +kernel
theorem dX7_init_48 : decode cX7_init 48 = .ok (.aload_n 0, 1) := by decide +kernel
theorem dX7_init_49 : decode cX7_init 49 = .ok (.bipush 8, 2) := by decide +kernel
theorem dX7_init_51 : decode cX7_init 51 = .ok (.newarray .int, 2) := by decide +kernel
theorem dX7_init_53 : decode cX7_init 53 = .ok (.putfield 37, 3) := by decide +kernel
theorem dX7_init_56 : decode cX7_init 56 = .ok (.aload_n 0, 1) := by decide +kernel
theorem dX7_init_57 : decode cX7_init 57 = .ok (.iconst 0, 1) := by decide +kernel
theorem dX7_init_58 : decode cX7_init 58 = .ok (.putfield 40, 3) := by decide +kernel
theorem dX7_init_61 : decode cX7_init 61 = .ok (.return_, 1) := by decide +kernel
theorem dX7_append_0 : decode cX7_append 0 = .ok (.aload_n 0, 1) := by decide +kernel
theorem dX7_append_1 : decode cX7_append 1 = .ok (.getfield 9, 3) := by decide +kernel
theorem dX7_append_4 : decode cX7_append 4 = .ok (.iconst 0, 1) := by decide +kernel
theorem dX7_append_5 : decode cX7_append 5 = .ok (.sipush 149, 3) := by decide +kernel
theorem dX7_append_8 : decode cX7_append 8 = .ok (.invokestatic 43, 3) := by decide +kernel
theorem dX7_append_11 : decode cX7_append 11 = .ok (.ifCond .eq 23, 3) := by decide +kernel
theorem dX7_append_14 : decode cX7_append 14 = .ok (.aload_n 0, 1) := by decide +kernel
theorem dX7_append_15 : decode cX7_append 15 = .ok (.getfield 15, 3) := by decide +kernel
theorem dX7_append_18 : decode cX7_append 18 = .ok (.aload_n 0, 1) := by decide +kernel
theorem dX7_append_19 : decode cX7_append 19 = .ok (.getfield 9, 3) := by decide +kernel
theorem dX7_append_22 : decode cX7_append 22 = .ok (.iload_n 1, 1) := by decide +kernel
theorem dX7_append_23 : decode cX7_append 23 = .ok (.iastore, 1) := by decide +kernel
theorem dX7_append_24 : decode cX7_append 24 = .ok (.aload_n 0, 1) := by decide +kernel
theorem dX7_append_25 : decode cX7_append 25 = .ok (.dup, 1) := by decide +kernel
theorem dX7_append_26 : decode cX7_append 26 = .ok (.getfield 9, 3) := by decide +kernel
theorem dX7_append_29 : decode cX7_append 29 = .ok (.iconst 1, 1) := by decide +kernel
theorem dX7_append_30 : decode cX7_append 30 = .ok (.iadd, 1) := by decide +kernel
theorem dX7_append_31 : decode cX7_append 31 = .ok (.putfield 9, 3) := by decide +kernel
theorem dX7_append_34 : decode cX7_append 34 = .ok (.return_, 1) := by decide +kernel
theorem dX7_readInto_0 : decode cX7_readInto 0 = .ok (.aload_n 1, 1) := by decide +kernel
theorem dX7_readInto_1 : decode cX7_readInto 1 = .ok (.invokevirtual 47, 3) := by decide +kernel
theorem dX7_readInto_4 : decode cX7_readInto 4 = .ok (.aload_n 0, 1) := by decide +kernel
theorem dX7_readInto_5 : decode cX7_readInto 5 = .ok (.iconst 0, 1) := by decide +kernel
theorem dX7_readInto_6 : decode cX7_readInto 6 = .ok (.putfield 22, 3) := by decide +kernel
theorem dX7_readInto_9 : decode cX7_readInto 9 = .ok (.aload_n 0, 1) := by decide +kernel
theorem dX7_readInto_10 : decode cX7_readInto 10 = .ok (.iconst (-1), 1) := by decide +kernel
theorem dX7_readInto_11 : decode cX7_readInto 11 = .ok (.putfield 31, 3) := by decide +kernel
theorem dX7_readInto_14 : decode cX7_readInto 14 = .ok (.aload_n 0, 1) := by decide +kernel
theorem dX7_readInto_15 : decode cX7_readInto 15 = .ok (.iconst 0, 1) := by decide +kernel
theorem dX7_readInto_16 : decode cX7_readInto 16 = .ok (.putfield 40, 3) := by decide +kernel
theorem dX7_readInto_19 : decode cX7_readInto 19 = .ok (.iconst 0, 1) := by decide +kernel
theorem dX7_readInto_20 : decode cX7_readInto 20 = .ok (.istore_n 2, 1) := by decide +kernel
theorem dX7_readInto_21 : decode cX7_readInto 21 = .ok (.iload_n 2, 1) := by decide +kernel
theorem dX7_readInto_22 : decode cX7_readInto 22 = .ok (.sipush 150, 3) := by decide +kernel
theorem dX7_readInto_25 : decode cX7_readInto 25 = .ok (.if_icmp .gt 56, 3) := by decide +kernel
theorem dX7_readInto_28 : decode cX7_readInto 28 = .ok (.aload_n 0, 1) := by decide +kernel
theorem dX7_readInto_29 : decode cX7_readInto 29 = .ok (.invokevirtual 52, 3) := by decide +kernel
theorem dX7_readInto_32 : decode cX7_readInto 32 = .ok (.aload_n 0, 1) := by decide +kernel
theorem dX7_readInto_33 : decode cX7_readInto 33 = .ok (.getfield 25, 3) := by decide +kernel
theorem dX7_readInto_36 : decode cX7_readInto 36 = .ok (.ifCond .ne 23, 3) := by decide +kernel
theorem dX7_readInto_39 : decode cX7_readInto 39 = .ok (.aload_n 0, 1) := by decide +kernel
theorem dX7_readInto_40 : decode cX7_readInto 40 = .ok (.getfield 31, 3) := by decide +kernel
theorem dX7_readInto_43 : decode cX7_readInto 43 = .ok (.iconst (-1), 1) := by decide +kernel
theorem dX7_readInto_44 : decode cX7_readInto 44 = .ok (.if_icmp .ne 15, 3) := by decide +kernel
theorem dX7_readInto_47 : decode cX7_readInto 47 = .ok (.aload_n 0, 1) := by decide +kernel
theorem dX7_readInto_48 : decode cX7_readInto 48 = .ok (.getfield 40, 3) := by decide +kernel
theorem dX7_readInto_51 : decode cX7_readInto 51 = .ok (.ifCond .le 8, 3) := by decide +kernel
theorem dX7_readInto_54 : decode cX7_readInto 54 = .ok (.aload_n 0, 1) := by decide +kernel
theorem dX7_readInto_55 : decode cX7_readInto 55 = .ok (.getfield 40, 3) := by decide +kernel
theorem dX7_readInto_58 : decode cX7_readInto 58 = .ok (.ireturn, 1) := by decide +kernel
theorem dX7_readInto_59 : decode cX7_readInto 59 = .ok (.aload_n 0, 1) := by decide +kernel
theorem dX7_readInto_60 : decode cX7_readInto 60 = .ok (.aload_n 1, 1) := by decide +kernel
theorem dX7_readInto_61 : decode cX7_readInto 61 = .ok (.invokevirtual 55, 3) := by decide +kernel
theorem dX7_readInto_64 : decode cX7_readInto 64 = .ok (.ifCond .ne 11, 3) := by decide +kernel
theorem dX7_readInto_67 : decode cX7_readInto 67 = .ok (.bipush (-10), 2) := by decide +kernel
theorem dX7_readInto_69 : decode cX7_readInto 69 = .ok (.aload_n 0, 1) := by decide +kernel
theorem dX7_readInto_70 : decode cX7_readInto 70 = .ok (.getfield 19, 3) := by decide +kernel
theorem dX7_readInto_73 : decode cX7_readInto 73 = .ok (.isub, 1) := by decide +kernel
theorem dX7_readInto_74 : decode cX7_readInto 74 = .ok (.ireturn, 1) := by decide +kernel
theorem dX7_readInto_75 : decode cX7_readInto 75 = .ok (.iinc 2 1, 3) := by decide +kernel
theorem dX7_readInto_78 : decode cX7_readInto 78 = .ok (.goto (-57), 3) := by decide +kernel
theorem dX7_readInto_81 : decode cX7_readInto 81 = .ok (.bipush (-10), 2) := by decide +kernel
theorem dX7_readInto_83 : decode cX7_readInto 83 = .ok (.aload_n 0, 1) := by decide +kernel
theorem dX7_readInto_84 : decode cX7_readInto 84 = .ok (.getfield 19, 3) := by decide +kernel
theorem dX7_readInto_87 : decode cX7_readInto 87 = .ok (.isub, 1) := by decide +kernel
theorem dX7_readInto_88 : decode cX7_readInto 88 = .ok (.ireturn, 1) := by decide +kernel
theorem dX7_takes_0 : decode cX7_takes 0 = .ok (.aload_n 0, 1) := by decide +kernel
theorem dX7_takes_1 : decode cX7_takes 1 = .ok (.getfield 31, 3) := by decide +kernel
theorem dX7_takes_4 : decode cX7_takes 4 = .ok (.iconst (-1), 1) := by decide +kernel
theorem dX7_takes_5 : decode cX7_takes 5 = .ok (.if_icmp .ne 9, 3) := by decide +kernel
theorem dX7_takes_8 : decode cX7_takes 8 = .ok (.aload_n 0, 1) := by decide +kernel
theorem dX7_takes_9 : decode cX7_takes 9 = .ok (.aload_n 1, 1) := by decide +kernel
theorem dX7_takes_10 : decode cX7_takes 10 = .ok (.invokevirtual 59, 3) := by decide +kernel
theorem dX7_takes_13 : decode cX7_takes 13 = .ok (.ireturn, 1) := by decide +kernel
theorem dX7_takes_14 : decode cX7_takes 14 = .ok (.aload_n 0, 1) := by decide +kernel
theorem dX7_takes_15 : decode cX7_takes 15 = .ok (.getfield 34, 3) := by decide +kernel
theorem dX7_takes_18 : decode cX7_takes 18 = .ok (.aload_n 0, 1) := by decide +kernel
theorem dX7_takes_19 : decode cX7_takes 19 = .ok (.getfield 31, 3) := by decide +kernel
theorem dX7_takes_22 : decode cX7_takes 22 = .ok (.invokestatic 62, 3) := by decide +kernel
theorem dX7_takes_25 : decode cX7_takes 25 = .ok (.if_icmp .ge 9, 3) := by decide +kernel
theorem dX7_takes_28 : decode cX7_takes 28 = .ok (.aload_n 0, 1) := by decide +kernel
theorem dX7_takes_29 : decode cX7_takes 29 = .ok (.aload_n 1, 1) := by decide +kernel
theorem dX7_takes_30 : decode cX7_takes 30 = .ok (.invokevirtual 66, 3) := by decide +kernel
theorem dX7_takes_33 : decode cX7_takes 33 = .ok (.ireturn, 1) := by decide +kernel
theorem dX7_takes_34 : decode cX7_takes 34 = .ok (.aload_n 0, 1) := by decide +kernel
theorem dX7_takes_35 : decode cX7_takes 35 = .ok (.getfield 25, 3) := by decide +kernel
theorem dX7_takes_38 : decode cX7_takes 38 = .ok (.iconst 3, 1) := by decide +kernel
theorem dX7_takes_39 : decode cX7_takes 39 = .ok (.if_icmp .eq 5, 3) := by decide +kernel
theorem dX7_takes_42 : decode cX7_takes 42 = .ok (.iconst 0, 1) := by decide +kernel
theorem dX7_takes_43 : decode cX7_takes 43 = .ok (.ireturn, 1) := by decide +kernel
theorem dX7_takes_44 : decode cX7_takes 44 = .ok (.aload_n 0, 1) := by decide +kernel
theorem dX7_takes_45 : decode cX7_takes 45 = .ok (.aload_n 1, 1) := by decide +kernel
theorem dX7_takes_46 : decode cX7_takes 46 = .ok (.invokevirtual 69, 3) := by decide +kernel
theorem dX7_takes_49 : decode cX7_takes 49 = .ok (.aload_n 0, 1) := by decide +kernel
theorem dX7_takes_50 : decode cX7_takes 50 = .ok (.iconst (-1), 1) := by decide +kernel
theorem dX7_takes_51 : decode cX7_takes 51 = .ok (.putfield 31, 3) := by decide +kernel
theorem dX7_takes_54 : decode cX7_takes 54 = .ok (.aload_n 0, 1) := by decide +kernel
theorem dX7_takes_55 : decode cX7_takes 55 = .ok (.dup, 1) := by decide +kernel
theorem dX7_takes_56 : decode cX7_takes 56 = .ok (.getfield 40, 3) := by decide +kernel
theorem dX7_takes_59 : decode cX7_takes 59 = .ok (.iconst 1, 1) := by decide +kernel
theorem dX7_takes_60 : decode cX7_takes 60 = .ok (.iadd, 1) := by decide +kernel
theorem dX7_takes_61 : decode cX7_takes 61 = .ok (.putfield 40, 3) := by decide +kernel
theorem dX7_takes_64 : decode cX7_takes 64 = .ok (.iconst 1, 1) := by decide +kernel
theorem dX7_takes_65 : decode cX7_takes 65 = .ok (.ireturn, 1) := by decide +kernel
theorem dX7_begins_0 : decode cX7_begins 0 = .ok (.aload_n 0, 1) := by decide +kernel
theorem dX7_begins_1 : decode cX7_begins 1 = .ok (.getfield 28, 3) := by decide +kernel
theorem dX7_begins_4 : decode cX7_begins 4 = .ok (.ifCond .ne 7, 3) := by decide +kernel
theorem dX7_begins_7 : decode cX7_begins 7 = .ok (.iconst 1, 1) := by decide +kernel
theorem dX7_begins_8 : decode cX7_begins 8 = .ok (.goto 4, 3) := by decide +kernel
theorem dX7_begins_11 : decode cX7_begins 11 = .ok (.iconst 0, 1) := by decide +kernel
theorem dX7_begins_12 : decode cX7_begins 12 = .ok (.aload_n 0, 1) := by decide +kernel
theorem dX7_begins_13 : decode cX7_begins 13 = .ok (.getfield 40, 3) := by decide +kernel
theorem dX7_begins_16 : decode cX7_begins 16 = .ok (.ifCond .ne 7, 3) := by decide +kernel
theorem dX7_begins_19 : decode cX7_begins 19 = .ok (.iconst 1, 1) := by decide +kernel
theorem dX7_begins_20 : decode cX7_begins 20 = .ok (.goto 4, 3) := by decide +kernel
theorem dX7_begins_23 : decode cX7_begins 23 = .ok (.iconst 0, 1) := by decide +kernel
theorem dX7_begins_24 : decode cX7_begins 24 = .ok (.if_icmp .ne 7, 3) := by decide +kernel
theorem dX7_begins_27 : decode cX7_begins 27 = .ok (.iconst 1, 1) := by decide +kernel
theorem dX7_begins_28 : decode cX7_begins 28 = .ok (.goto 4, 3) := by decide +kernel
theorem dX7_begins_31 : decode cX7_begins 31 = .ok (.iconst 0, 1) := by decide +kernel
theorem dX7_begins_32 : decode cX7_begins 32 = .ok (.istore_n 2, 1) := by decide +kernel
theorem dX7_begins_33 : decode cX7_begins 33 = .ok (.aload_n 0, 1) := by decide +kernel
theorem dX7_begins_34 : decode cX7_begins 34 = .ok (.getfield 28, 3) := by decide +kernel
theorem dX7_begins_37 : decode cX7_begins 37 = .ok (.iconst 1, 1) := by decide +kernel
theorem dX7_begins_38 : decode cX7_begins 38 = .ok (.if_icmp .ne 16, 3) := by decide +kernel
theorem dX7_begins_41 : decode cX7_begins 41 = .ok (.aload_n 1, 1) := by decide +kernel
theorem dX7_begins_42 : decode cX7_begins 42 = .ok (.getfield 73, 3) := by decide +kernel
theorem dX7_begins_45 : decode cX7_begins 45 = .ok (.bipush 6, 2) := by decide +kernel
theorem dX7_begins_47 : decode cX7_begins 47 = .ok (.if_icmp .lt 7, 3) := by decide +kernel
theorem dX7_begins_50 : decode cX7_begins 50 = .ok (.iconst 1, 1) := by decide +kernel
theorem dX7_begins_51 : decode cX7_begins 51 = .ok (.goto 4, 3) := by decide +kernel
theorem dX7_begins_54 : decode cX7_begins 54 = .ok (.iconst 0, 1) := by decide +kernel
theorem dX7_begins_55 : decode cX7_begins 55 = .ok (.istore_n 3, 1) := by decide +kernel
theorem dX7_begins_56 : decode cX7_begins 56 = .ok (.aload_n 0, 1) := by decide +kernel
theorem dX7_begins_57 : decode cX7_begins 57 = .ok (.getfield 25, 3) := by decide +kernel
theorem dX7_begins_60 : decode cX7_begins 60 = .ok (.iconst 1, 1) := by decide +kernel
theorem dX7_begins_61 : decode cX7_begins 61 = .ok (.if_icmp .ne 11, 3) := by decide +kernel
theorem dX7_begins_64 : decode cX7_begins 64 = .ok (.iload_n 2, 1) := by decide +kernel
theorem dX7_begins_65 : decode cX7_begins 65 = .ok (.ifCond .eq 7, 3) := by decide +kernel
theorem dX7_begins_68 : decode cX7_begins 68 = .ok (.iload_n 3, 1) := by decide +kernel
theorem dX7_begins_69 : decode cX7_begins 69 = .ok (.ifCond .eq 5, 3) := by decide +kernel
theorem dX7_begins_72 : decode cX7_begins 72 = .ok (.iconst 0, 1) := by decide +kernel
theorem dX7_begins_73 : decode cX7_begins 73 = .ok (.ireturn, 1) := by decide +kernel
theorem dX7_begins_74 : decode cX7_begins 74 = .ok (.aload_n 0, 1) := by decide +kernel
theorem dX7_begins_75 : decode cX7_begins 75 = .ok (.aload_n 0, 1) := by decide +kernel
theorem dX7_begins_76 : decode cX7_begins 76 = .ok (.getfield 28, 3) := by decide +kernel
theorem dX7_begins_79 : decode cX7_begins 79 = .ok (.putfield 31, 3) := by decide +kernel
theorem dX7_begins_82 : decode cX7_begins 82 = .ok (.aload_n 0, 1) := by decide +kernel
theorem dX7_begins_83 : decode cX7_begins 83 = .ok (.iconst 0, 1) := by decide +kernel
theorem dX7_begins_84 : decode cX7_begins 84 = .ok (.putfield 34, 3) := by decide +kernel
theorem dX7_begins_87 : decode cX7_begins 87 = .ok (.iconst 1, 1) := by decide +kernel
theorem dX7_begins_88 : decode cX7_begins 88 = .ok (.ireturn, 1) := by decide +kernel
theorem dX7_takesNumber_0 : decode cX7_takesNumber 0 = .ok (.aload_n 0, 1) := by decide +kernel
theorem dX7_takesNumber_1 : decode cX7_takesNumber 1 = .ok (.getfield 25, 3) := by decide +kernel
theorem dX7_takesNumber_4 : decode cX7_takesNumber 4 = .ok (.iconst 2, 1) := by decide +kernel
theorem dX7_takesNumber_5 : decode cX7_takesNumber 5 = .ok (.if_icmp .ne 29, 3) := by decide +kernel
theorem dX7_takesNumber_8 : decode cX7_takesNumber 8 = .ok (.aload_n 0, 1) := by decide +kernel
theorem dX7_takesNumber_9 : decode cX7_takesNumber 9 = .ok (.getfield 28, 3) := by decide +kernel
theorem dX7_takesNumber_12 : decode cX7_takesNumber 12 = .ok (.aload_n 0, 1) := by decide +kernel
theorem dX7_takesNumber_13 : decode cX7_takesNumber 13 = .ok (.invokevirtual 76, 3) := by decide +kernel
theorem dX7_takesNumber_16 : decode cX7_takesNumber 16 = .ok (.aload_n 0, 1) := by decide +kernel
theorem dX7_takesNumber_17 : decode cX7_takesNumber 17 = .ok (.aload_n 1, 1) := by decide +kernel
theorem dX7_takesNumber_18 : decode cX7_takesNumber 18 = .ok (.getfield 73, 3) := by decide +kernel
theorem dX7_takesNumber_21 : decode cX7_takesNumber 21 = .ok (.invokevirtual 80, 3) := by decide +kernel
theorem dX7_takesNumber_24 : decode cX7_takesNumber 24 = .ok (.invokestatic 43, 3) := by decide +kernel
theorem dX7_takesNumber_27 : decode cX7_takesNumber 27 = .ok (.ifCond .eq 7, 3) := by decide +kernel
theorem dX7_takesNumber_30 : decode cX7_takesNumber 30 = .ok (.iconst 1, 1) := by decide +kernel
theorem dX7_takesNumber_31 : decode cX7_takesNumber 31 = .ok (.goto 4, 3) := by decide +kernel
theorem dX7_takesNumber_34 : decode cX7_takesNumber 34 = .ok (.iconst 0, 1) := by decide +kernel
theorem dX7_takesNumber_35 : decode cX7_takesNumber 35 = .ok (.istore_n 2, 1) := by decide +kernel
theorem dX7_takesNumber_36 : decode cX7_takesNumber 36 = .ok (.iload_n 2, 1) := by decide +kernel
theorem dX7_takesNumber_37 : decode cX7_takesNumber 37 = .ok (.ifCond .eq 16, 3) := by decide +kernel
theorem dX7_takesNumber_40 : decode cX7_takesNumber 40 = .ok (.aload_n 0, 1) := by decide +kernel
theorem dX7_takesNumber_41 : decode cX7_takesNumber 41 = .ok (.getfield 34, 3) := by decide +kernel
theorem dX7_takesNumber_44 : decode cX7_takesNumber 44 = .ok (.iconst 0, 1) := by decide +kernel
theorem dX7_takesNumber_45 : decode cX7_takesNumber 45 = .ok (.bipush 7, 2) := by decide +kernel
theorem dX7_takesNumber_47 : decode cX7_takesNumber 47 = .ok (.invokestatic 43, 3) := by decide +kernel
theorem dX7_takesNumber_50 : decode cX7_takesNumber 50 = .ok (.ifCond .ne 5, 3) := by decide +kernel
theorem dX7_takesNumber_53 : decode cX7_takesNumber 53 = .ok (.iconst 0, 1) := by decide +kernel
theorem dX7_takesNumber_54 : decode cX7_takesNumber 54 = .ok (.ireturn, 1) := by decide +kernel
theorem dX7_takesNumber_55 : decode cX7_takesNumber 55 = .ok (.aload_n 0, 1) := by decide +kernel
theorem dX7_takesNumber_56 : decode cX7_takesNumber 56 = .ok (.getfield 37, 3) := by decide +kernel
theorem dX7_takesNumber_59 : decode cX7_takesNumber 59 = .ok (.aload_n 0, 1) := by decide +kernel
theorem dX7_takesNumber_60 : decode cX7_takesNumber 60 = .ok (.getfield 34, 3) := by decide +kernel
theorem dX7_takesNumber_63 : decode cX7_takesNumber 63 = .ok (.aload_n 0, 1) := by decide +kernel
theorem dX7_takesNumber_64 : decode cX7_takesNumber 64 = .ok (.getfield 28, 3) := by decide +kernel
theorem dX7_takesNumber_67 : decode cX7_takesNumber 67 = .ok (.iastore, 1) := by decide +kernel
theorem dX7_takesNumber_68 : decode cX7_takesNumber 68 = .ok (.aload_n 0, 1) := by decide +kernel
theorem dX7_takesNumber_69 : decode cX7_takesNumber 69 = .ok (.dup, 1) := by decide +kernel
theorem dX7_takesNumber_70 : decode cX7_takesNumber 70 = .ok (.getfield 34, 3) := by decide +kernel
theorem dX7_takesNumber_73 : decode cX7_takesNumber 73 = .ok (.iconst 1, 1) := by decide +kernel
theorem dX7_takesNumber_74 : decode cX7_takesNumber 74 = .ok (.iadd, 1) := by decide +kernel
theorem dX7_takesNumber_75 : decode cX7_takesNumber 75 = .ok (.putfield 34, 3) := by decide +kernel
theorem dX7_takesNumber_78 : decode cX7_takesNumber 78 = .ok (.iconst 1, 1) := by decide +kernel
theorem dX7_takesNumber_79 : decode cX7_takesNumber 79 = .ok (.ireturn, 1) := by decide +kernel
theorem dX7_numbersOf_0 : decode cX7_numbersOf 0 = .ok (.iload_n 0, 1) := by decide +kernel
theorem dX7_numbersOf_1 : decode cX7_numbersOf 1 = .ok (.lookupswitch 40 #[(0, 35), (3, 38), (5, 38)], 35) := by decide +kernel
theorem dX7_numbersOf_36 : decode cX7_numbersOf 36 = .ok (.bipush 8, 2) := by decide +kernel
theorem dX7_numbersOf_38 : decode cX7_numbersOf 38 = .ok (.ireturn, 1) := by decide +kernel
theorem dX7_numbersOf_39 : decode cX7_numbersOf 39 = .ok (.iconst 1, 1) := by decide +kernel
theorem dX7_numbersOf_40 : decode cX7_numbersOf 40 = .ok (.ireturn, 1) := by decide +kernel
theorem dX7_numbersOf_41 : decode cX7_numbersOf 41 = .ok (.iconst 2, 1) := by decide +kernel
theorem dX7_numbersOf_42 : decode cX7_numbersOf 42 = .ok (.ireturn, 1) := by decide +kernel
theorem dX7_lowest_0 : decode cX7_lowest 0 = .ok (.aload_n 0, 1) := by decide +kernel
theorem dX7_lowest_1 : decode cX7_lowest 1 = .ok (.getfield 31, 3) := by decide +kernel
theorem dX7_lowest_4 : decode cX7_lowest 4 = .ok (.iconst 5, 1) := by decide +kernel
theorem dX7_lowest_5 : decode cX7_lowest 5 = .ok (.if_icmp .eq 19, 3) := by decide +kernel
theorem dX7_lowest_8 : decode cX7_lowest 8 = .ok (.aload_n 0, 1) := by decide +kernel
theorem dX7_lowest_9 : decode cX7_lowest 9 = .ok (.getfield 31, 3) := by decide +kernel
theorem dX7_lowest_12 : decode cX7_lowest 12 = .ok (.iconst 1, 1) := by decide +kernel
theorem dX7_lowest_13 : decode cX7_lowest 13 = .ok (.if_icmp .ne 15, 3) := by decide +kernel
theorem dX7_lowest_16 : decode cX7_lowest 16 = .ok (.aload_n 0, 1) := by decide +kernel
theorem dX7_lowest_17 : decode cX7_lowest 17 = .ok (.getfield 34, 3) := by decide +kernel
theorem dX7_lowest_20 : decode cX7_lowest 20 = .ok (.iconst 1, 1) := by decide +kernel
theorem dX7_lowest_21 : decode cX7_lowest 21 = .ok (.if_icmp .ne 7, 3) := by decide +kernel
theorem dX7_lowest_24 : decode cX7_lowest 24 = .ok (.iconst 1, 1) := by decide +kernel
theorem dX7_lowest_25 : decode cX7_lowest 25 = .ok (.goto 4, 3) := by decide +kernel
theorem dX7_lowest_28 : decode cX7_lowest 28 = .ok (.iconst 0, 1) := by decide +kernel
theorem dX7_lowest_29 : decode cX7_lowest 29 = .ok (.istore_n 1, 1) := by decide +kernel
theorem dX7_lowest_30 : decode cX7_lowest 30 = .ok (.iload_n 1, 1) := by decide +kernel
theorem dX7_lowest_31 : decode cX7_lowest 31 = .ok (.ifCond .eq 7, 3) := by decide +kernel
theorem dX7_lowest_34 : decode cX7_lowest 34 = .ok (.iconst 1, 1) := by decide +kernel
theorem dX7_lowest_35 : decode cX7_lowest 35 = .ok (.goto 4, 3) := by decide +kernel
theorem dX7_lowest_38 : decode cX7_lowest 38 = .ok (.iconst 0, 1) := by decide +kernel
theorem dX7_lowest_39 : decode cX7_lowest 39 = .ok (.ireturn, 1) := by decide +kernel
theorem dX7_highest_0 : decode cX7_highest 0 = .ok (.aload_n 0, 1) := by decide +kernel
theorem dX7_highest_1 : decode cX7_highest 1 = .ok (.getfield 31, 3) := by decide +kernel
theorem dX7_highest_4 : decode cX7_highest 4 = .ok (.tableswitch 87 0 4 #[36, 38, 52, 68, 71], 36) := by decide +kernel
theorem dX7_highest_40 : decode cX7_highest 40 = .ok (.iconst 5, 1) := by decide +kernel
theorem dX7_highest_41 : decode cX7_highest 41 = .ok (.ireturn, 1) := by decide +kernel
theorem dX7_highest_42 : decode cX7_highest 42 = .ok (.aload_n 0, 1) := by decide +kernel
theorem dX7_highest_43 : decode cX7_highest 43 = .ok (.getfield 34, 3) := by decide +kernel
theorem dX7_highest_46 : decode cX7_highest 46 = .ok (.ifCond .ne 7, 3) := by decide +kernel
theorem dX7_highest_49 : decode cX7_highest 49 = .ok (.iconst 5, 1) := by decide +kernel
theorem dX7_highest_50 : decode cX7_highest 50 = .ok (.goto 5, 3) := by decide +kernel
theorem dX7_highest_53 : decode cX7_highest 53 = .ok (.bipush 12, 2) := by decide +kernel
theorem dX7_highest_55 : decode cX7_highest 55 = .ok (.ireturn, 1) := by decide +kernel
theorem dX7_highest_56 : decode cX7_highest 56 = .ok (.aload_n 0, 1) := by decide +kernel
theorem dX7_highest_57 : decode cX7_highest 57 = .ok (.getfield 34, 3) := by decide +kernel
theorem dX7_highest_60 : decode cX7_highest 60 = .ok (.ifCond .ne 9, 3) := by decide +kernel
theorem dX7_highest_63 : decode cX7_highest 63 = .ok (.iload_n 1, 1) := by decide +kernel
theorem dX7_highest_64 : decode cX7_highest 64 = .ok (.iconst 1, 1) := by decide +kernel
theorem dX7_highest_65 : decode cX7_highest 65 = .ok (.isub, 1) := by decide +kernel
theorem dX7_highest_66 : decode cX7_highest 66 = .ok (.goto 5, 3) := by decide +kernel
theorem dX7_highest_69 : decode cX7_highest 69 = .ok (.bipush 7, 2) := by decide +kernel
theorem dX7_highest_71 : decode cX7_highest 71 = .ok (.ireturn, 1) := by decide +kernel
theorem dX7_highest_72 : decode cX7_highest 72 = .ok (.bipush 6, 2) := by decide +kernel
theorem dX7_highest_74 : decode cX7_highest 74 = .ok (.ireturn, 1) := by decide +kernel
theorem dX7_highest_75 : decode cX7_highest 75 = .ok (.aload_n 0, 1) := by decide +kernel
theorem dX7_highest_76 : decode cX7_highest 76 = .ok (.getfield 34, 3) := by decide +kernel
theorem dX7_highest_79 : decode cX7_highest 79 = .ok (.ifCond .ne 9, 3) := by decide +kernel
theorem dX7_highest_82 : decode cX7_highest 82 = .ok (.iload_n 1, 1) := by decide +kernel
theorem dX7_highest_83 : decode cX7_highest 83 = .ok (.iconst 1, 1) := by decide +kernel
theorem dX7_highest_84 : decode cX7_highest 84 = .ok (.isub, 1) := by decide +kernel
theorem dX7_highest_85 : decode cX7_highest 85 = .ok (.goto 5, 3) := by decide +kernel
theorem dX7_highest_88 : decode cX7_highest 88 = .ok (.bipush 8, 2) := by decide +kernel
theorem dX7_highest_90 : decode cX7_highest 90 = .ok (.ireturn, 1) := by decide +kernel
theorem dX7_highest_91 : decode cX7_highest 91 = .ok (.bipush 99, 2) := by decide +kernel
theorem dX7_highest_93 : decode cX7_highest 93 = .ok (.ireturn, 1) := by decide +kernel
theorem dX7_settle_0 : decode cX7_settle 0 = .ok (.aload_n 0, 1) := by decide +kernel
theorem dX7_settle_1 : decode cX7_settle 1 = .ok (.getfield 37, 3) := by decide +kernel
theorem dX7_settle_4 : decode cX7_settle 4 = .ok (.iconst 0, 1) := by decide +kernel
theorem dX7_settle_5 : decode cX7_settle 5 = .ok (.iaload, 1) := by decide +kernel
theorem dX7_settle_6 : decode cX7_settle 6 = .ok (.istore_n 2, 1) := by decide +kernel
theorem dX7_settle_7 : decode cX7_settle 7 = .ok (.aload_n 0, 1) := by decide +kernel
theorem dX7_settle_8 : decode cX7_settle 8 = .ok (.getfield 37, 3) := by decide +kernel
theorem dX7_settle_11 : decode cX7_settle 11 = .ok (.iconst 1, 1) := by decide +kernel
theorem dX7_settle_12 : decode cX7_settle 12 = .ok (.iaload, 1) := by decide +kernel
theorem dX7_settle_13 : decode cX7_settle 13 = .ok (.istore_n 3, 1) := by decide +kernel
theorem dX7_settle_14 : decode cX7_settle 14 = .ok (.aload_n 0, 1) := by decide +kernel
theorem dX7_settle_15 : decode cX7_settle 15 = .ok (.getfield 31, 3) := by decide +kernel
theorem dX7_settle_18 : decode cX7_settle 18 = .ok (.tableswitch 96 0 4 #[34, 45, 54, 66, 84], 34) := by decide +kernel
theorem dX7_settle_52 : decode cX7_settle 52 = .ok (.aload_n 0, 1) := by decide +kernel
theorem dX7_settle_53 : decode cX7_settle 53 = .ok (.aload_n 1, 1) := by decide +kernel
theorem dX7_settle_54 : decode cX7_settle 54 = .ok (.getfield 83, 3) := by decide +kernel
theorem dX7_settle_57 : decode cX7_settle 57 = .ok (.invokevirtual 87, 3) := by decide +kernel
theorem dX7_settle_60 : decode cX7_settle 60 = .ok (.goto 62, 3) := by decide +kernel
theorem dX7_settle_63 : decode cX7_settle 63 = .ok (.aload_n 1, 1) := by decide +kernel
theorem dX7_settle_64 : decode cX7_settle 64 = .ok (.iload_n 2, 1) := by decide +kernel
theorem dX7_settle_65 : decode cX7_settle 65 = .ok (.iload_n 3, 1) := by decide +kernel
theorem dX7_settle_66 : decode cX7_settle 66 = .ok (.invokevirtual 91, 3) := by decide +kernel
theorem dX7_settle_69 : decode cX7_settle 69 = .ok (.goto 53, 3) := by decide +kernel
theorem dX7_settle_72 : decode cX7_settle 72 = .ok (.aload_n 1, 1) := by decide +kernel
theorem dX7_settle_73 : decode cX7_settle 73 = .ok (.getfield 83, 3) := by decide +kernel
theorem dX7_settle_76 : decode cX7_settle 76 = .ok (.iload_n 2, 1) := by decide +kernel
theorem dX7_settle_77 : decode cX7_settle 77 = .ok (.iload_n 3, 1) := by decide +kernel
theorem dX7_settle_78 : decode cX7_settle 78 = .ok (.invokevirtual 95, 3) := by decide +kernel
theorem dX7_settle_81 : decode cX7_settle 81 = .ok (.goto 41, 3) := by decide +kernel
theorem dX7_settle_84 : decode cX7_settle 84 = .ok (.aload_n 1, 1) := by decide +kernel
theorem dX7_settle_85 : decode cX7_settle 85 = .ok (.getfield 83, 3) := by decide +kernel
theorem dX7_settle_88 : decode cX7_settle 88 = .ok (.dup, 1) := by decide +kernel
theorem dX7_settle_89 : decode cX7_settle 89 = .ok (.getfield 100, 3) := by decide +kernel
theorem dX7_settle_92 : decode cX7_settle 92 = .ok (.iconst 1, 1) := by decide +kernel
theorem dX7_settle_93 : decode cX7_settle 93 = .ok (.iload_n 2, 1) := by decide +kernel
theorem dX7_settle_94 : decode cX7_settle 94 = .ok (.ishl, 1) := by decide +kernel
theorem dX7_settle_95 : decode cX7_settle 95 = .ok (.ior, 1) := by decide +kernel
theorem dX7_settle_96 : decode cX7_settle 96 = .ok (.putfield 100, 3) := by decide +kernel
theorem dX7_settle_99 : decode cX7_settle 99 = .ok (.goto 23, 3) := by decide +kernel
theorem dX7_settle_102 : decode cX7_settle 102 = .ok (.aload_n 1, 1) := by decide +kernel
theorem dX7_settle_103 : decode cX7_settle 103 = .ok (.getfield 83, 3) := by decide +kernel
theorem dX7_settle_106 : decode cX7_settle 106 = .ok (.iload_n 2, 1) := by decide +kernel
theorem dX7_settle_107 : decode cX7_settle 107 = .ok (.iload_n 3, 1) := by decide +kernel
theorem dX7_settle_108 : decode cX7_settle 108 = .ok (.invokevirtual 103, 3) := by decide +kernel
theorem dX7_settle_111 : decode cX7_settle 111 = .ok (.goto 11, 3) := by decide +kernel
theorem dX7_settle_114 : decode cX7_settle 114 = .ok (.aload_n 1, 1) := by decide +kernel
theorem dX7_settle_115 : decode cX7_settle 115 = .ok (.getfield 83, 3) := by decide +kernel
theorem dX7_settle_118 : decode cX7_settle 118 = .ok (.iload_n 2, 1) := by decide +kernel
theorem dX7_settle_119 : decode cX7_settle 119 = .ok (.invokevirtual 106, 3) := by decide +kernel
theorem dX7_settle_122 : decode cX7_settle 122 = .ok (.return_, 1) := by decide +kernel
theorem dX7_settleKinds_0 : decode cX7_settleKinds 0 = .ok (.iconst 0, 1) := by decide +kernel
theorem dX7_settleKinds_1 : decode cX7_settleKinds 1 = .ok (.istore_n 2, 1) := by decide +kernel
theorem dX7_settleKinds_2 : decode cX7_settleKinds 2 = .ok (.iload_n 2, 1) := by decide +kernel
theorem dX7_settleKinds_3 : decode cX7_settleKinds 3 = .ok (.bipush 8, 2) := by decide +kernel
theorem dX7_settleKinds_5 : decode cX7_settleKinds 5 = .ok (.if_icmp .ge 21, 3) := by decide +kernel
theorem dX7_settleKinds_8 : decode cX7_settleKinds 8 = .ok (.aload_n 1, 1) := by decide +kernel
theorem dX7_settleKinds_9 : decode cX7_settleKinds 9 = .ok (.getfield 110, 3) := by decide +kernel
theorem dX7_settleKinds_12 : decode cX7_settleKinds 12 = .ok (.iload_n 2, 1) := by decide +kernel
theorem dX7_settleKinds_13 : decode cX7_settleKinds 13 = .ok (.aload_n 0, 1) := by decide +kernel
theorem dX7_settleKinds_14 : decode cX7_settleKinds 14 = .ok (.getfield 37, 3) := by decide +kernel
theorem dX7_settleKinds_17 : decode cX7_settleKinds 17 = .ok (.iload_n 2, 1) := by decide +kernel
theorem dX7_settleKinds_18 : decode cX7_settleKinds 18 = .ok (.iaload, 1) := by decide +kernel
theorem dX7_settleKinds_19 : decode cX7_settleKinds 19 = .ok (.iastore, 1) := by decide +kernel
theorem dX7_settleKinds_20 : decode cX7_settleKinds 20 = .ok (.iinc 2 1, 3) := by decide +kernel
theorem dX7_settleKinds_23 : decode cX7_settleKinds 23 = .ok (.goto (-21), 3) := by decide +kernel
theorem dX7_settleKinds_26 : decode cX7_settleKinds 26 = .ok (.return_, 1) := by decide +kernel
theorem dX7_nextToken_0 : decode cX7_nextToken 0 = .ok (.aload_n 0, 1) := by decide +kernel
theorem dX7_nextToken_1 : decode cX7_nextToken 1 = .ok (.aload_n 0, 1) := by decide +kernel
theorem dX7_nextToken_2 : decode cX7_nextToken 2 = .ok (.aload_n 0, 1) := by decide +kernel
theorem dX7_nextToken_3 : decode cX7_nextToken 3 = .ok (.getfield 22, 3) := by decide +kernel
theorem dX7_nextToken_6 : decode cX7_nextToken 6 = .ok (.bipush 32, 2) := by decide +kernel
theorem dX7_nextToken_8 : decode cX7_nextToken 8 = .ok (.bipush 32, 2) := by decide +kernel
theorem dX7_nextToken_10 : decode cX7_nextToken 10 = .ok (.invokevirtual 113, 3) := by decide +kernel
theorem dX7_nextToken_13 : decode cX7_nextToken 13 = .ok (.putfield 19, 3) := by decide +kernel
theorem dX7_nextToken_16 : decode cX7_nextToken 16 = .ok (.aload_n 0, 1) := by decide +kernel
theorem dX7_nextToken_17 : decode cX7_nextToken 17 = .ok (.aload_n 0, 1) := by decide +kernel
theorem dX7_nextToken_18 : decode cX7_nextToken 18 = .ok (.getfield 19, 3) := by decide +kernel
theorem dX7_nextToken_21 : decode cX7_nextToken 21 = .ok (.iconst 1, 1) := by decide +kernel
theorem dX7_nextToken_22 : decode cX7_nextToken 22 = .ok (.iadd, 1) := by decide +kernel
theorem dX7_nextToken_23 : decode cX7_nextToken 23 = .ok (.putfield 22, 3) := by decide +kernel
theorem dX7_nextToken_26 : decode cX7_nextToken 26 = .ok (.aload_n 0, 1) := by decide +kernel
theorem dX7_nextToken_27 : decode cX7_nextToken 27 = .ok (.iconst 0, 1) := by decide +kernel
theorem dX7_nextToken_28 : decode cX7_nextToken 28 = .ok (.putfield 28, 3) := by decide +kernel
theorem dX7_nextToken_31 : decode cX7_nextToken 31 = .ok (.aload_n 0, 1) := by decide +kernel
theorem dX7_nextToken_32 : decode cX7_nextToken 32 = .ok (.aload_n 0, 1) := by decide +kernel
theorem dX7_nextToken_33 : decode cX7_nextToken 33 = .ok (.getfield 19, 3) := by decide +kernel
theorem dX7_nextToken_36 : decode cX7_nextToken 36 = .ok (.invokevirtual 117, 3) := by decide +kernel
theorem dX7_nextToken_39 : decode cX7_nextToken 39 = .ok (.istore_n 1, 1) := by decide +kernel
theorem dX7_nextToken_40 : decode cX7_nextToken 40 = .ok (.iload_n 1, 1) := by decide +kernel
theorem dX7_nextToken_41 : decode cX7_nextToken 41 = .ok (.iconst (-1), 1) := by decide +kernel
theorem dX7_nextToken_42 : decode cX7_nextToken 42 = .ok (.if_icmp .ne 19, 3) := by decide +kernel
theorem dX7_nextToken_45 : decode cX7_nextToken 45 = .ok (.aload_n 0, 1) := by decide +kernel
theorem dX7_nextToken_46 : decode cX7_nextToken 46 = .ok (.iconst 0, 1) := by decide +kernel
theorem dX7_nextToken_47 : decode cX7_nextToken 47 = .ok (.putfield 25, 3) := by decide +kernel
theorem dX7_nextToken_50 : decode cX7_nextToken 50 = .ok (.aload_n 0, 1) := by decide +kernel
theorem dX7_nextToken_51 : decode cX7_nextToken 51 = .ok (.aload_n 0, 1) := by decide +kernel
theorem dX7_nextToken_52 : decode cX7_nextToken 52 = .ok (.getfield 19, 3) := by decide +kernel
theorem dX7_nextToken_55 : decode cX7_nextToken 55 = .ok (.putfield 22, 3) := by decide +kernel
theorem dX7_nextToken_58 : decode cX7_nextToken 58 = .ok (.goto 137, 3) := by decide +kernel
theorem dX7_nextToken_61 : decode cX7_nextToken 61 = .ok (.iload_n 1, 1) := by decide +kernel
theorem dX7_nextToken_62 : decode cX7_nextToken 62 = .ok (.bipush 59, 2) := by decide +kernel
theorem dX7_nextToken_64 : decode cX7_nextToken 64 = .ok (.if_icmp .ne 11, 3) := by decide +kernel
theorem dX7_nextToken_67 : decode cX7_nextToken 67 = .ok (.aload_n 0, 1) := by decide +kernel
theorem dX7_nextToken_68 : decode cX7_nextToken 68 = .ok (.iconst 3, 1) := by decide +kernel
theorem dX7_nextToken_69 : decode cX7_nextToken 69 = .ok (.putfield 25, 3) := by decide +kernel
theorem dX7_nextToken_72 : decode cX7_nextToken 72 = .ok (.goto 123, 3) := by decide +kernel
theorem dX7_nextToken_75 : decode cX7_nextToken 75 = .ok (.iload_n 1, 1) := by decide +kernel
theorem dX7_nextToken_76 : decode cX7_nextToken 76 = .ok (.bipush 97, 2) := by decide +kernel
theorem dX7_nextToken_78 : decode cX7_nextToken 78 = .ok (.bipush 122, 2) := by decide +kernel
theorem dX7_nextToken_80 : decode cX7_nextToken 80 = .ok (.invokestatic 43, 3) := by decide +kernel
theorem dX7_nextToken_83 : decode cX7_nextToken 83 = .ok (.ifCond .eq 47, 3) := by decide +kernel
theorem dX7_nextToken_86 : decode cX7_nextToken 86 = .ok (.aload_n 0, 1) := by decide +kernel
theorem dX7_nextToken_87 : decode cX7_nextToken 87 = .ok (.aload_n 0, 1) := by decide +kernel
theorem dX7_nextToken_88 : decode cX7_nextToken 88 = .ok (.aload_n 0, 1) := by decide +kernel
theorem dX7_nextToken_89 : decode cX7_nextToken 89 = .ok (.getfield 19, 3) := by decide +kernel
theorem dX7_nextToken_92 : decode cX7_nextToken 92 = .ok (.bipush 97, 2) := by decide +kernel
theorem dX7_nextToken_94 : decode cX7_nextToken 94 = .ok (.bipush 122, 2) := by decide +kernel
theorem dX7_nextToken_96 : decode cX7_nextToken 96 = .ok (.invokevirtual 113, 3) := by decide +kernel
theorem dX7_nextToken_99 : decode cX7_nextToken 99 = .ok (.putfield 22, 3) := by decide +kernel
theorem dX7_nextToken_102 : decode cX7_nextToken 102 = .ok (.aload_n 0, 1) := by decide +kernel
theorem dX7_nextToken_103 : decode cX7_nextToken 103 = .ok (.aload_n 0, 1) := by decide +kernel
theorem dX7_nextToken_104 : decode cX7_nextToken 104 = .ok (.invokevirtual 120, 3) := by decide +kernel
theorem dX7_nextToken_107 : decode cX7_nextToken 107 = .ok (.putfield 28, 3) := by decide +kernel
theorem dX7_nextToken_110 : decode cX7_nextToken 110 = .ok (.aload_n 0, 1) := by decide +kernel
theorem dX7_nextToken_111 : decode cX7_nextToken 111 = .ok (.aload_n 0, 1) := by decide +kernel
theorem dX7_nextToken_112 : decode cX7_nextToken 112 = .ok (.getfield 28, 3) := by decide +kernel
theorem dX7_nextToken_115 : decode cX7_nextToken 115 = .ok (.iconst (-1), 1) := by decide +kernel
theorem dX7_nextToken_116 : decode cX7_nextToken 116 = .ok (.if_icmp .ne 7, 3) := by decide +kernel
theorem dX7_nextToken_119 : decode cX7_nextToken 119 = .ok (.iconst 4, 1) := by decide +kernel
theorem dX7_nextToken_120 : decode cX7_nextToken 120 = .ok (.goto 4, 3) := by decide +kernel
theorem dX7_nextToken_123 : decode cX7_nextToken 123 = .ok (.iconst 1, 1) := by decide +kernel
theorem dX7_nextToken_124 : decode cX7_nextToken 124 = .ok (.putfield 25, 3) := by decide +kernel
theorem dX7_nextToken_127 : decode cX7_nextToken 127 = .ok (.goto 68, 3) := by decide +kernel
theorem dX7_nextToken_130 : decode cX7_nextToken 130 = .ok (.iload_n 1, 1) := by decide +kernel
theorem dX7_nextToken_131 : decode cX7_nextToken 131 = .ok (.bipush 48, 2) := by decide +kernel
theorem dX7_nextToken_133 : decode cX7_nextToken 133 = .ok (.bipush 57, 2) := by decide +kernel
theorem dX7_nextToken_135 : decode cX7_nextToken 135 = .ok (.invokestatic 43, 3) := by decide +kernel
theorem dX7_nextToken_138 : decode cX7_nextToken 138 = .ok (.ifCond .eq 52, 3) := by decide +kernel
theorem dX7_nextToken_141 : decode cX7_nextToken 141 = .ok (.aload_n 0, 1) := by decide +kernel
theorem dX7_nextToken_142 : decode cX7_nextToken 142 = .ok (.aload_n 0, 1) := by decide +kernel
theorem dX7_nextToken_143 : decode cX7_nextToken 143 = .ok (.aload_n 0, 1) := by decide +kernel
theorem dX7_nextToken_144 : decode cX7_nextToken 144 = .ok (.getfield 19, 3) := by decide +kernel
theorem dX7_nextToken_147 : decode cX7_nextToken 147 = .ok (.bipush 48, 2) := by decide +kernel
theorem dX7_nextToken_149 : decode cX7_nextToken 149 = .ok (.bipush 57, 2) := by decide +kernel
theorem dX7_nextToken_151 : decode cX7_nextToken 151 = .ok (.invokevirtual 113, 3) := by decide +kernel
theorem dX7_nextToken_154 : decode cX7_nextToken 154 = .ok (.putfield 22, 3) := by decide +kernel
theorem dX7_nextToken_157 : decode cX7_nextToken 157 = .ok (.aload_n 0, 1) := by decide +kernel
theorem dX7_nextToken_158 : decode cX7_nextToken 158 = .ok (.aload_n 0, 1) := by decide +kernel
theorem dX7_nextToken_159 : decode cX7_nextToken 159 = .ok (.getfield 22, 3) := by decide +kernel
theorem dX7_nextToken_162 : decode cX7_nextToken 162 = .ok (.aload_n 0, 1) := by decide +kernel
theorem dX7_nextToken_163 : decode cX7_nextToken 163 = .ok (.getfield 19, 3) := by decide +kernel
theorem dX7_nextToken_166 : decode cX7_nextToken 166 = .ok (.isub, 1) := by decide +kernel
theorem dX7_nextToken_167 : decode cX7_nextToken 167 = .ok (.iconst 2, 1) := by decide +kernel
theorem dX7_nextToken_168 : decode cX7_nextToken 168 = .ok (.if_icmp .le 7, 3) := by decide +kernel
theorem dX7_nextToken_171 : decode cX7_nextToken 171 = .ok (.iconst 4, 1) := by decide +kernel
theorem dX7_nextToken_172 : decode cX7_nextToken 172 = .ok (.goto 4, 3) := by decide +kernel
theorem dX7_nextToken_175 : decode cX7_nextToken 175 = .ok (.iconst 2, 1) := by decide +kernel
theorem dX7_nextToken_176 : decode cX7_nextToken 176 = .ok (.putfield 25, 3) := by decide +kernel
theorem dX7_nextToken_179 : decode cX7_nextToken 179 = .ok (.aload_n 0, 1) := by decide +kernel
theorem dX7_nextToken_180 : decode cX7_nextToken 180 = .ok (.aload_n 0, 1) := by decide +kernel
theorem dX7_nextToken_181 : decode cX7_nextToken 181 = .ok (.invokevirtual 123, 3) := by decide +kernel
theorem dX7_nextToken_184 : decode cX7_nextToken 184 = .ok (.putfield 28, 3) := by decide +kernel
theorem dX7_nextToken_187 : decode cX7_nextToken 187 = .ok (.goto 8, 3) := by decide +kernel
theorem dX7_nextToken_190 : decode cX7_nextToken 190 = .ok (.aload_n 0, 1) := by decide +kernel
theorem dX7_nextToken_191 : decode cX7_nextToken 191 = .ok (.iconst 4, 1) := by decide +kernel
theorem dX7_nextToken_192 : decode cX7_nextToken 192 = .ok (.putfield 25, 3) := by decide +kernel
theorem dX7_nextToken_195 : decode cX7_nextToken 195 = .ok (.return_, 1) := by decide +kernel
theorem dX7_behindRun_0 : decode cX7_behindRun 0 = .ok (.iload_n 1, 1) := by decide +kernel
theorem dX7_behindRun_1 : decode cX7_behindRun 1 = .ok (.istore 4, 2) := by decide +kernel
theorem dX7_behindRun_3 : decode cX7_behindRun 3 = .ok (.iload 4, 2) := by decide +kernel
theorem dX7_behindRun_5 : decode cX7_behindRun 5 = .ok (.aload_n 0, 1) := by decide +kernel
theorem dX7_behindRun_6 : decode cX7_behindRun 6 = .ok (.getfield 9, 3) := by decide +kernel
theorem dX7_behindRun_9 : decode cX7_behindRun 9 = .ok (.if_icmp .ge 26, 3) := by decide +kernel
theorem dX7_behindRun_12 : decode cX7_behindRun 12 = .ok (.aload_n 0, 1) := by decide +kernel
theorem dX7_behindRun_13 : decode cX7_behindRun 13 = .ok (.iload 4, 2) := by decide +kernel
theorem dX7_behindRun_15 : decode cX7_behindRun 15 = .ok (.invokevirtual 117, 3) := by decide +kernel
theorem dX7_behindRun_18 : decode cX7_behindRun 18 = .ok (.iload_n 2, 1) := by decide +kernel
theorem dX7_behindRun_19 : decode cX7_behindRun 19 = .ok (.iload_n 3, 1) := by decide +kernel
theorem dX7_behindRun_20 : decode cX7_behindRun 20 = .ok (.invokestatic 43, 3) := by decide +kernel
theorem dX7_behindRun_23 : decode cX7_behindRun 23 = .ok (.ifCond .ne 6, 3) := by decide +kernel
theorem dX7_behindRun_26 : decode cX7_behindRun 26 = .ok (.iload 4, 2) := by decide +kernel
theorem dX7_behindRun_28 : decode cX7_behindRun 28 = .ok (.ireturn, 1) := by decide +kernel
theorem dX7_behindRun_29 : decode cX7_behindRun 29 = .ok (.iinc 4 1, 3) := by decide +kernel
theorem dX7_behindRun_32 : decode cX7_behindRun 32 = .ok (.goto (-29), 3) := by decide +kernel
theorem dX7_behindRun_35 : decode cX7_behindRun 35 = .ok (.aload_n 0, 1) := by decide +kernel
theorem dX7_behindRun_36 : decode cX7_behindRun 36 = .ok (.getfield 9, 3) := by decide +kernel
theorem dX7_behindRun_39 : decode cX7_behindRun 39 = .ok (.ireturn, 1) := by decide +kernel
theorem dX7_byteAt_0 : decode cX7_byteAt 0 = .ok (.iload_n 1, 1) := by decide +kernel
theorem dX7_byteAt_1 : decode cX7_byteAt 1 = .ok (.iconst 0, 1) := by decide +kernel
theorem dX7_byteAt_2 : decode cX7_byteAt 2 = .ok (.sipush 149, 3) := by decide +kernel
theorem dX7_byteAt_5 : decode cX7_byteAt 5 = .ok (.invokestatic 43, 3) := by decide +kernel
theorem dX7_byteAt_8 : decode cX7_byteAt 8 = .ok (.ifCond .eq 20, 3) := by decide +kernel
theorem dX7_byteAt_11 : decode cX7_byteAt 11 = .ok (.iload_n 1, 1) := by decide +kernel
theorem dX7_byteAt_12 : decode cX7_byteAt 12 = .ok (.aload_n 0, 1) := by decide +kernel
theorem dX7_byteAt_13 : decode cX7_byteAt 13 = .ok (.getfield 9, 3) := by decide +kernel
theorem dX7_byteAt_16 : decode cX7_byteAt 16 = .ok (.if_icmp .ge 12, 3) := by decide +kernel
theorem dX7_byteAt_19 : decode cX7_byteAt 19 = .ok (.aload_n 0, 1) := by decide +kernel
theorem dX7_byteAt_20 : decode cX7_byteAt 20 = .ok (.getfield 15, 3) := by decide +kernel
theorem dX7_byteAt_23 : decode cX7_byteAt 23 = .ok (.iload_n 1, 1) := by decide +kernel
theorem dX7_byteAt_24 : decode cX7_byteAt 24 = .ok (.iaload, 1) := by decide +kernel
theorem dX7_byteAt_25 : decode cX7_byteAt 25 = .ok (.goto 4, 3) := by decide +kernel
theorem dX7_byteAt_28 : decode cX7_byteAt 28 = .ok (.iconst (-1), 1) := by decide +kernel
theorem dX7_byteAt_29 : decode cX7_byteAt 29 = .ok (.ireturn, 1) := by decide +kernel
theorem dX7_numberRead_0 : decode cX7_numberRead 0 = .ok (.iconst 0, 1) := by decide +kernel
theorem dX7_numberRead_1 : decode cX7_numberRead 1 = .ok (.istore_n 1, 1) := by decide +kernel
theorem dX7_numberRead_2 : decode cX7_numberRead 2 = .ok (.aload_n 0, 1) := by decide +kernel
theorem dX7_numberRead_3 : decode cX7_numberRead 3 = .ok (.getfield 19, 3) := by decide +kernel
theorem dX7_numberRead_6 : decode cX7_numberRead 6 = .ok (.istore_n 2, 1) := by decide +kernel
theorem dX7_numberRead_7 : decode cX7_numberRead 7 = .ok (.iload_n 2, 1) := by decide +kernel
theorem dX7_numberRead_8 : decode cX7_numberRead 8 = .ok (.aload_n 0, 1) := by decide +kernel
theorem dX7_numberRead_9 : decode cX7_numberRead 9 = .ok (.getfield 22, 3) := by decide +kernel
theorem dX7_numberRead_12 : decode cX7_numberRead 12 = .ok (.if_icmp .ge 33, 3) := by decide +kernel
theorem dX7_numberRead_15 : decode cX7_numberRead 15 = .ok (.iload_n 2, 1) := by decide +kernel
theorem dX7_numberRead_16 : decode cX7_numberRead 16 = .ok (.aload_n 0, 1) := by decide +kernel
theorem dX7_numberRead_17 : decode cX7_numberRead 17 = .ok (.getfield 19, 3) := by decide +kernel
theorem dX7_numberRead_20 : decode cX7_numberRead 20 = .ok (.iconst 2, 1) := by decide +kernel
theorem dX7_numberRead_21 : decode cX7_numberRead 21 = .ok (.iadd, 1) := by decide +kernel
theorem dX7_numberRead_22 : decode cX7_numberRead 22 = .ok (.if_icmp .ge 23, 3) := by decide +kernel
theorem dX7_numberRead_25 : decode cX7_numberRead 25 = .ok (.bipush 10, 2) := by decide +kernel
theorem dX7_numberRead_27 : decode cX7_numberRead 27 = .ok (.iload_n 1, 1) := by decide +kernel
theorem dX7_numberRead_28 : decode cX7_numberRead 28 = .ok (.imul, 1) := by decide +kernel
theorem dX7_numberRead_29 : decode cX7_numberRead 29 = .ok (.aload_n 0, 1) := by decide +kernel
theorem dX7_numberRead_30 : decode cX7_numberRead 30 = .ok (.iload_n 2, 1) := by decide +kernel
theorem dX7_numberRead_31 : decode cX7_numberRead 31 = .ok (.invokevirtual 117, 3) := by decide +kernel
theorem dX7_numberRead_34 : decode cX7_numberRead 34 = .ok (.iadd, 1) := by decide +kernel
theorem dX7_numberRead_35 : decode cX7_numberRead 35 = .ok (.bipush 48, 2) := by decide +kernel
theorem dX7_numberRead_37 : decode cX7_numberRead 37 = .ok (.isub, 1) := by decide +kernel
theorem dX7_numberRead_38 : decode cX7_numberRead 38 = .ok (.istore_n 1, 1) := by decide +kernel
theorem dX7_numberRead_39 : decode cX7_numberRead 39 = .ok (.iinc 2 1, 3) := by decide +kernel
theorem dX7_numberRead_42 : decode cX7_numberRead 42 = .ok (.goto (-35), 3) := by decide +kernel
theorem dX7_numberRead_45 : decode cX7_numberRead 45 = .ok (.iload_n 1, 1) := by decide +kernel
theorem dX7_numberRead_46 : decode cX7_numberRead 46 = .ok (.ireturn, 1) := by decide +kernel
theorem dX7_wordRead_0 : decode cX7_wordRead 0 = .ok (.iconst 0, 1) := by decide +kernel
theorem dX7_wordRead_1 : decode cX7_wordRead 1 = .ok (.istore_n 1, 1) := by decide +kernel
theorem dX7_wordRead_2 : decode cX7_wordRead 2 = .ok (.iload_n 1, 1) := by decide +kernel
theorem dX7_wordRead_3 : decode cX7_wordRead 3 = .ok (.iconst 5, 1) := by decide +kernel
theorem dX7_wordRead_4 : decode cX7_wordRead 4 = .ok (.if_icmp .gt 22, 3) := by decide +kernel
theorem dX7_wordRead_7 : decode cX7_wordRead 7 = .ok (.aload_n 0, 1) := by decide +kernel
theorem dX7_wordRead_8 : decode cX7_wordRead 8 = .ok (.iload_n 1, 1) := by decide +kernel
theorem dX7_wordRead_9 : decode cX7_wordRead 9 = .ok (.invokestatic 126, 3) := by decide +kernel
theorem dX7_wordRead_12 : decode cX7_wordRead 12 = .ok (.invokevirtual 130, 3) := by decide +kernel
theorem dX7_wordRead_15 : decode cX7_wordRead 15 = .ok (.ifCond .eq 5, 3) := by decide +kernel
theorem dX7_wordRead_18 : decode cX7_wordRead 18 = .ok (.iload_n 1, 1) := by decide +kernel
theorem dX7_wordRead_19 : decode cX7_wordRead 19 = .ok (.ireturn, 1) := by decide +kernel
theorem dX7_wordRead_20 : decode cX7_wordRead 20 = .ok (.iinc 1 1, 3) := by decide +kernel
theorem dX7_wordRead_23 : decode cX7_wordRead 23 = .ok (.goto (-21), 3) := by decide +kernel
theorem dX7_wordRead_26 : decode cX7_wordRead 26 = .ok (.iconst (-1), 1) := by decide +kernel
theorem dX7_wordRead_27 : decode cX7_wordRead 27 = .ok (.ireturn, 1) := by decide +kernel
theorem dX7_reads_0 : decode cX7_reads 0 = .ok (.aload_n 1, 1) := by decide +kernel
theorem dX7_reads_1 : decode cX7_reads 1 = .ok (.invokevirtual 134, 3) := by decide +kernel
theorem dX7_reads_4 : decode cX7_reads 4 = .ok (.aload_n 0, 1) := by decide +kernel
theorem dX7_reads_5 : decode cX7_reads 5 = .ok (.getfield 22, 3) := by decide +kernel
theorem dX7_reads_8 : decode cX7_reads 8 = .ok (.aload_n 0, 1) := by decide +kernel
theorem dX7_reads_9 : decode cX7_reads 9 = .ok (.getfield 19, 3) := by decide +kernel
theorem dX7_reads_12 : decode cX7_reads 12 = .ok (.isub, 1) := by decide +kernel
theorem dX7_reads_13 : decode cX7_reads 13 = .ok (.if_icmp .eq 5, 3) := by decide +kernel
theorem dX7_reads_16 : decode cX7_reads 16 = .ok (.iconst 0, 1) := by decide +kernel
theorem dX7_reads_17 : decode cX7_reads 17 = .ok (.ireturn, 1) := by decide +kernel
theorem dX7_reads_18 : decode cX7_reads 18 = .ok (.iconst 0, 1) := by decide +kernel
theorem dX7_reads_19 : decode cX7_reads 19 = .ok (.istore_n 2, 1) := by decide +kernel
theorem dX7_reads_20 : decode cX7_reads 20 = .ok (.iload_n 2, 1) := by decide +kernel
theorem dX7_reads_21 : decode cX7_reads 21 = .ok (.aload_n 1, 1) := by decide +kernel
theorem dX7_reads_22 : decode cX7_reads 22 = .ok (.invokevirtual 134, 3) := by decide +kernel
theorem dX7_reads_25 : decode cX7_reads 25 = .ok (.if_icmp .ge 29, 3) := by decide +kernel
theorem dX7_reads_28 : decode cX7_reads 28 = .ok (.aload_n 0, 1) := by decide +kernel
theorem dX7_reads_29 : decode cX7_reads 29 = .ok (.aload_n 0, 1) := by decide +kernel
theorem dX7_reads_30 : decode cX7_reads 30 = .ok (.getfield 19, 3) := by decide +kernel
theorem dX7_reads_33 : decode cX7_reads 33 = .ok (.iload_n 2, 1) := by decide +kernel
theorem dX7_reads_34 : decode cX7_reads 34 = .ok (.iadd, 1) := by decide +kernel
theorem dX7_reads_35 : decode cX7_reads 35 = .ok (.invokevirtual 117, 3) := by decide +kernel
theorem dX7_reads_38 : decode cX7_reads 38 = .ok (.aload_n 1, 1) := by decide +kernel
theorem dX7_reads_39 : decode cX7_reads 39 = .ok (.iload_n 2, 1) := by decide +kernel
theorem dX7_reads_40 : decode cX7_reads 40 = .ok (.invokevirtual 139, 3) := by decide +kernel
theorem dX7_reads_43 : decode cX7_reads 43 = .ok (.if_icmp .eq 5, 3) := by decide +kernel
theorem dX7_reads_46 : decode cX7_reads 46 = .ok (.iconst 0, 1) := by decide +kernel
theorem dX7_reads_47 : decode cX7_reads 47 = .ok (.ireturn, 1) := by decide +kernel
theorem dX7_reads_48 : decode cX7_reads 48 = .ok (.iinc 2 1, 3) := by decide +kernel
theorem dX7_reads_51 : decode cX7_reads 51 = .ok (.goto (-31), 3) := by decide +kernel
theorem dX7_reads_54 : decode cX7_reads 54 = .ok (.iconst 1, 1) := by decide +kernel
theorem dX7_reads_55 : decode cX7_reads 55 = .ok (.ireturn, 1) := by decide +kernel
theorem dX7_nameOf_0 : decode cX7_nameOf 0 = .ok (.iload_n 0, 1) := by decide +kernel
theorem dX7_nameOf_1 : decode cX7_nameOf 1 = .ok (.tableswitch 50 0 4 #[35, 38, 41, 44, 47], 35) := by decide +kernel
theorem dX7_nameOf_36 : decode cX7_nameOf 36 = .ok (.ldc 143, 2) := by decide +kernel
theorem dX7_nameOf_38 : decode cX7_nameOf 38 = .ok (.areturn, 1) := by decide +kernel
theorem dX7_nameOf_39 : decode cX7_nameOf 39 = .ok (.ldc 145, 2) := by decide +kernel
theorem dX7_nameOf_41 : decode cX7_nameOf 41 = .ok (.areturn, 1) := by decide +kernel
theorem dX7_nameOf_42 : decode cX7_nameOf 42 = .ok (.ldc 147, 2) := by decide +kernel
theorem dX7_nameOf_44 : decode cX7_nameOf 44 = .ok (.areturn, 1) := by decide +kernel
theorem dX7_nameOf_45 : decode cX7_nameOf 45 = .ok (.ldc 149, 2) := by decide +kernel
theorem dX7_nameOf_47 : decode cX7_nameOf 47 = .ok (.areturn, 1) := by decide +kernel
theorem dX7_nameOf_48 : decode cX7_nameOf 48 = .ok (.ldc 151, 2) := by decide +kernel
theorem dX7_nameOf_50 : decode cX7_nameOf 50 = .ok (.areturn, 1) := by decide +kernel
theorem dX7_nameOf_51 : decode cX7_nameOf 51 = .ok (.ldc 153, 2) := by decide +kernel
theorem dX7_nameOf_53 : decode cX7_nameOf 53 = .ok (.areturn, 1) := by decide +kernel
theorem dX8_init_0 : decode cX8_init 0 = .ok (.aload_n 0, 1) := by decide +kernel
theorem dX8_init_1 : decode cX8_init 1 = .ok (.invokespecial 1, 3) := by decide +kernel
theorem dX8_init_4 : decode cX8_init 4 = .ok (.aload_n 0, 1) := by decide +kernel
theorem dX8_init_5 : decode cX8_init 5 = .ok (.new 7, 3) := by decide +kernel
theorem dX8_init_8 : decode cX8_init 8 = .ok (.dup, 1) := by decide +kernel
theorem dX8_init_9 : decode cX8_init 9 = .ok (.invokespecial 9, 3) := by decide +kernel
theorem dX8_init_12 : decode cX8_init 12 = .ok (.putfield 10, 3) := by decide +kernel
theorem dX8_init_15 : decode cX8_init 15 = .ok (.aload_n 0, 1) := by decide +kernel
theorem dX8_init_16 : decode cX8_init 16 = .ok (.new 7, 3) := by decide +kernel
theorem dX8_init_19 : decode cX8_init 19 = .ok (.dup, 1) := by decide +kernel
theorem dX8_init_20 : decode cX8_init 20 = .ok (.invokespecial 9, 3) := by decide +kernel
theorem dX8_init_23 : decode cX8_init 23 = .ok (.putfield 16, 3) := by decide +kernel
theorem dX8_init_26 : decode cX8_init 26 = .ok (.aload_n 0, 1) := by decide +kernel
theorem dX8_init_27 : decode cX8_init 27 = .ok (.iconst 2, 1) := by decide +kernel
theorem dX8_init_28 : decode cX8_init 28 = .ok (.anewarray 7, 3) := by decide +kernel
theorem dX8_init_31 : decode cX8_init 31 = .ok (.putfield 19, 3) := by decide +kernel
theorem dX8_init_34 : decode cX8_init 34 = .ok (.iconst 0, 1) := by decide +kernel
theorem dX8_init_35 : decode cX8_init 35 = .ok (.istore_n 1, 1) := by decide +kernel
theorem dX8_init_36 : decode cX8_init 36 = .ok (.iload_n 1, 1) := by decide +kernel
theorem dX8_init_37 : decode cX8_init 37 = .ok (.iconst 2, 1) := by decide +kernel
theorem dX8_init_38 : decode cX8_init 38 = .ok (.if_icmp .ge 22, 3) := by decide +kernel
theorem dX8_init_41 : decode cX8_init 41 = .ok (.aload_n 0, 1) := by decide +kernel
theorem dX8_init_42 : decode cX8_init 42 = .ok (.getfield 19, 3) := by decide +kernel
theorem dX8_init_45 : decode cX8_init 45 = .ok (.iload_n 1, 1) := by decide +kernel
theorem dX8_init_46 : decode cX8_init 46 = .ok (.new 7, 3) := by decide +kernel
theorem dX8_init_49 : decode cX8_init 49 = .ok (.dup, 1) := by decide +kernel
theorem dX8_init_50 : decode cX8_init 50 = .ok (.invokespecial 9, 3) := by decide +kernel
theorem dX8_init_53 : decode cX8_init 53 = .ok (.aastore, 1) := by decide +kernel
theorem dX8_init_54 : decode cX8_init 54 = .ok (.iinc 1 1, 3) := by decide +kernel
theorem dX8_init_57 : decode cX8_init 57 = .ok (.goto (-21), 3) := by decide +kernel
theorem dX8_init_60 : decode cX8_init 60 = .ok (.aload_n 0, 1) := by decide +kernel
theorem dX8_init_61 : decode cX8_init 61 = .ok (.iconst 2, 1) := by decide +kernel
theorem dX8_init_62 : decode cX8_init 62 = .ok (.newarray .boolean, 2) := by decide +kernel
theorem dX8_init_64 : decode cX8_init 64 = .ok (.putfield 23, 3) := by decide +kernel
theorem dX8_init_67 : decode cX8_init 67 = .ok (.aload_n 0, 1) := by decide +kernel
theorem dX8_init_68 : decode cX8_init 68 = .ok (.new 27, 3) := by decide +kernel
theorem dX8_init_71 : decode cX8_init 71 = .ok (.dup, 1) := by decide +kernel
theorem dX8_init_72 : decode cX8_init 72 = .ok (.invokespecial 29, 3) := by decide +kernel
theorem dX8_init_75 : decode cX8_init 75 = .ok (.putfield 30, 3) := by decide +kernel
theorem dX8_init_78 : decode cX8_init 78 = .ok (.aload_n 0, 1) := by decide +kernel
theorem dX8_init_79 : decode cX8_init 79 = .ok (.new 34, 3) := by decide +kernel
theorem dX8_init_82 : decode cX8_init 82 = .ok (.dup, 1) := by decide +kernel
theorem dX8_init_83 : decode cX8_init 83 = .ok (.invokespecial 36, 3) := by decide +kernel
theorem dX8_init_86 : decode cX8_init 86 = .ok (.putfield 37, 3) := by decide +kernel
theorem dX8_init_89 : decode cX8_init 89 = .ok (.aload_n 0, 1) := by decide +kernel
theorem dX8_init_90 : decode cX8_init 90 = .ok (.lconst 0, 1) := by decide +kernel
theorem dX8_init_91 : decode cX8_init 91 = .ok (.putfield 41, 3) := by decide +kernel
theorem dX8_init_94 : decode cX8_init 94 = .ok (.aload_n 0, 1) := by decide +kernel
theorem dX8_init_95 : decode cX8_init 95 = .ok (.lconst 1, 1) := by decide +kernel
theorem dX8_init_96 : decode cX8_init 96 = .ok (.putfield 45, 3) := by decide +kernel
theorem dX8_init_99 : decode cX8_init 99 = .ok (.aload_n 0, 1) := by decide +kernel
theorem dX8_init_100 : decode cX8_init 100 = .ok (.iconst 0, 1) := by decide +kernel
theorem dX8_init_101 : decode cX8_init 101 = .ok (.putfield 48, 3) := by decide +kernel
theorem dX8_init_104 : decode cX8_init 104 = .ok (.aload_n 0, 1) := by decide +kernel
theorem dX8_init_105 : decode cX8_init 105 = .ok (.iconst 0, 1) := by decide +kernel
theorem dX8_init_106 : decode cX8_init 106 = .ok (.putfield 52, 3) := by decide +kernel
theorem dX8_init_109 : decode cX8_init 109 = .ok (.aload_n 0, 1) := by decide +kernel
theorem dX8_init_110 : decode cX8_init 110 = .ok (.iconst 0, 1) := by decide +kernel
theorem dX8_init_111 : decode cX8_init 111 = .ok (.putfield 55, 3) := by decide +kernel
theorem dX8_init_114 : decode cX8_init 114 = .ok (.return_, 1) := by decide +kernel
theorem dX8_house_0 : decode cX8_house 0 = .ok (.aload_n 0, 1) := by decide +kernel
theorem dX8_house_1 : decode cX8_house 1 = .ok (.getfield 10, 3) := by decide +kernel
theorem dX8_house_4 : decode cX8_house 4 = .ok (.getfield 58, 3) := by decide +kernel
theorem dX8_house_7 : decode cX8_house 7 = .ok (.istore_n 1, 1) := by decide +kernel
theorem dX8_house_8 : decode cX8_house 8 = .ok (.aload_n 0, 1) := by decide +kernel
theorem dX8_house_9 : decode cX8_house 9 = .ok (.getfield 10, 3) := by decide +kernel
theorem dX8_house_12 : decode cX8_house 12 = .ok (.invokevirtual 61, 3) := by decide +kernel
theorem dX8_house_15 : decode cX8_house 15 = .ok (.iload_n 1, 1) := by decide +kernel
theorem dX8_house_16 : decode cX8_house 16 = .ok (.ireturn, 1) := by decide +kernel
theorem dX8_one_0 : decode cX8_one 0 = .ok (.iload_n 1, 1) := by decide +kernel
theorem dX8_one_1 : decode cX8_one 1 = .ok (.iconst 0, 1) := by decide +kernel
theorem dX8_one_2 : decode cX8_one 2 = .ok (.iconst 5, 1) := by decide +kernel
theorem dX8_one_3 : decode cX8_one 3 = .ok (.invokestatic 64, 3) := by decide +kernel
theorem dX8_one_6 : decode cX8_one 6 = .ok (.ifCond .eq 13, 3) := by decide +kernel
theorem dX8_one_9 : decode cX8_one 9 = .ok (.iload_n 2, 1) := by decide +kernel
theorem dX8_one_10 : decode cX8_one 10 = .ok (.iconst 1, 1) := by decide +kernel
theorem dX8_one_11 : decode cX8_one 11 = .ok (.bipush 12, 2) := by decide +kernel
theorem dX8_one_13 : decode cX8_one 13 = .ok (.invokestatic 64, 3) := by decide +kernel
theorem dX8_one_16 : decode cX8_one 16 = .ok (.ifCond .ne 10, 3) := by decide +kernel
theorem dX8_one_19 : decode cX8_one 19 = .ok (.aload_n 0, 1) := by decide +kernel
theorem dX8_one_20 : decode cX8_one 20 = .ok (.bipush (-2), 2) := by decide +kernel
theorem dX8_one_22 : decode cX8_one 22 = .ok (.invokevirtual 68, 3) := by decide +kernel
theorem dX8_one_25 : decode cX8_one 25 = .ok (.ireturn, 1) := by decide +kernel
theorem dX8_one_26 : decode cX8_one 26 = .ok (.aload_n 0, 1) := by decide +kernel
theorem dX8_one_27 : decode cX8_one 27 = .ok (.getfield 10, 3) := by decide +kernel
theorem dX8_one_30 : decode cX8_one 30 = .ok (.getfield 58, 3) := by decide +kernel
theorem dX8_one_33 : decode cX8_one 33 = .ok (.bipush 6, 2) := by decide +kernel
theorem dX8_one_35 : decode cX8_one 35 = .ok (.if_icmp .lt 10, 3) := by decide +kernel
theorem dX8_one_38 : decode cX8_one 38 = .ok (.aload_n 0, 1) := by decide +kernel
theorem dX8_one_39 : decode cX8_one 39 = .ok (.bipush (-4), 2) := by decide +kernel
theorem dX8_one_41 : decode cX8_one 41 = .ok (.invokevirtual 68, 3) := by decide +kernel
theorem dX8_one_44 : decode cX8_one 44 = .ok (.ireturn, 1) := by decide +kernel
theorem dX8_one_45 : decode cX8_one 45 = .ok (.aload_n 0, 1) := by decide +kernel
theorem dX8_one_46 : decode cX8_one 46 = .ok (.getfield 10, 3) := by decide +kernel
theorem dX8_one_49 : decode cX8_one 49 = .ok (.iload_n 1, 1) := by decide +kernel
theorem dX8_one_50 : decode cX8_one 50 = .ok (.iload_n 2, 1) := by decide +kernel
theorem dX8_one_51 : decode cX8_one 51 = .ok (.invokevirtual 72, 3) := by decide +kernel
theorem dX8_one_54 : decode cX8_one 54 = .ok (.aload_n 0, 1) := by decide +kernel
theorem dX8_one_55 : decode cX8_one 55 = .ok (.getfield 10, 3) := by decide +kernel
theorem dX8_one_58 : decode cX8_one 58 = .ok (.getfield 58, 3) := by decide +kernel
theorem dX8_one_61 : decode cX8_one 61 = .ok (.iconst 1, 1) := by decide +kernel
theorem dX8_one_62 : decode cX8_one 62 = .ok (.isub, 1) := by decide +kernel
theorem dX8_one_63 : decode cX8_one 63 = .ok (.ireturn, 1) := by decide +kernel
theorem dX8_type_0 : decode cX8_type 0 = .ok (.iload_n 1, 1) := by decide +kernel
theorem dX8_type_1 : decode cX8_type 1 = .ok (.iconst 0, 1) := by decide +kernel
theorem dX8_type_2 : decode cX8_type 2 = .ok (.bipush 127, 2) := by decide +kernel
theorem dX8_type_4 : decode cX8_type 4 = .ok (.invokestatic 64, 3) := by decide +kernel
theorem dX8_type_7 : decode cX8_type 7 = .ok (.ifCond .ne 10, 3) := by decide +kernel
theorem dX8_type_10 : decode cX8_type 10 = .ok (.aload_n 0, 1) := by decide +kernel
theorem dX8_type_11 : decode cX8_type 11 = .ok (.bipush (-2), 2) := by decide +kernel
theorem dX8_type_13 : decode cX8_type 13 = .ok (.invokevirtual 68, 3) := by decide +kernel
theorem dX8_type_16 : decode cX8_type 16 = .ok (.ireturn, 1) := by decide +kernel
theorem dX8_type_17 : decode cX8_type 17 = .ok (.aload_n 0, 1) := by decide +kernel
theorem dX8_type_18 : decode cX8_type 18 = .ok (.getfield 30, 3) := by decide +kernel
theorem dX8_type_21 : decode cX8_type 21 = .ok (.getfield 76, 3) := by decide +kernel
theorem dX8_type_24 : decode cX8_type 24 = .ok (.sipush 150, 3) := by decide +kernel
theorem dX8_type_27 : decode cX8_type 27 = .ok (.if_icmp .lt 10, 3) := by decide +kernel
theorem dX8_type_30 : decode cX8_type 30 = .ok (.aload_n 0, 1) := by decide +kernel
theorem dX8_type_31 : decode cX8_type 31 = .ok (.bipush (-4), 2) := by decide +kernel
theorem dX8_type_33 : decode cX8_type 33 = .ok (.invokevirtual 68, 3) := by decide +kernel
theorem dX8_type_36 : decode cX8_type 36 = .ok (.ireturn, 1) := by decide +kernel
theorem dX8_type_37 : decode cX8_type 37 = .ok (.aload_n 0, 1) := by decide +kernel
theorem dX8_type_38 : decode cX8_type 38 = .ok (.getfield 30, 3) := by decide +kernel
theorem dX8_type_41 : decode cX8_type 41 = .ok (.iload_n 1, 1) := by decide +kernel
theorem dX8_type_42 : decode cX8_type 42 = .ok (.invokevirtual 79, 3) := by decide +kernel
theorem dX8_type_45 : decode cX8_type 45 = .ok (.aload_n 0, 1) := by decide +kernel
theorem dX8_type_46 : decode cX8_type 46 = .ok (.getfield 30, 3) := by decide +kernel
theorem dX8_type_49 : decode cX8_type 49 = .ok (.getfield 76, 3) := by decide +kernel
theorem dX8_type_52 : decode cX8_type 52 = .ok (.ireturn, 1) := by decide +kernel
theorem dX8_clear_0 : decode cX8_clear 0 = .ok (.aload_n 0, 1) := by decide +kernel
theorem dX8_clear_1 : decode cX8_clear 1 = .ok (.getfield 30, 3) := by decide +kernel
theorem dX8_clear_4 : decode cX8_clear 4 = .ok (.getfield 76, 3) := by decide +kernel
theorem dX8_clear_7 : decode cX8_clear 7 = .ok (.istore_n 1, 1) := by decide +kernel
theorem dX8_clear_8 : decode cX8_clear 8 = .ok (.aload_n 0, 1) := by decide +kernel
theorem dX8_clear_9 : decode cX8_clear 9 = .ok (.getfield 30, 3) := by decide +kernel
theorem dX8_clear_12 : decode cX8_clear 12 = .ok (.iconst 0, 1) := by decide +kernel
theorem dX8_clear_13 : decode cX8_clear 13 = .ok (.putfield 76, 3) := by decide +kernel
theorem dX8_clear_16 : decode cX8_clear 16 = .ok (.iload_n 1, 1) := by decide +kernel
theorem dX8_clear_17 : decode cX8_clear 17 = .ok (.ireturn, 1) := by decide +kernel
theorem dX8_read_0 : decode cX8_read 0 = .ok (.aload_n 0, 1) := by decide +kernel
theorem dX8_read_1 : decode cX8_read 1 = .ok (.getfield 30, 3) := by decide +kernel
theorem dX8_read_4 : decode cX8_read 4 = .ok (.aload_n 0, 1) := by decide +kernel
theorem dX8_read_5 : decode cX8_read 5 = .ok (.getfield 16, 3) := by decide +kernel
theorem dX8_read_8 : decode cX8_read 8 = .ok (.invokevirtual 83, 3) := by decide +kernel
theorem dX8_read_11 : decode cX8_read 11 = .ok (.istore_n 1, 1) := by decide +kernel
theorem dX8_read_12 : decode cX8_read 12 = .ok (.iload_n 1, 1) := by decide +kernel
theorem dX8_read_13 : decode cX8_read 13 = .ok (.ifCond .le 14, 3) := by decide +kernel
theorem dX8_read_16 : decode cX8_read 16 = .ok (.aload_n 0, 1) := by decide +kernel
theorem dX8_read_17 : decode cX8_read 17 = .ok (.getfield 10, 3) := by decide +kernel
theorem dX8_read_20 : decode cX8_read 20 = .ok (.aload_n 0, 1) := by decide +kernel
theorem dX8_read_21 : decode cX8_read 21 = .ok (.getfield 16, 3) := by decide +kernel
theorem dX8_read_24 : decode cX8_read 24 = .ok (.invokevirtual 87, 3) := by decide +kernel
theorem dX8_read_27 : decode cX8_read 27 = .ok (.iload_n 1, 1) := by decide +kernel
theorem dX8_read_28 : decode cX8_read 28 = .ok (.ireturn, 1) := by decide +kernel
theorem dX8_meets_0 : decode cX8_meets 0 = .ok (.aload_n 0, 1) := by decide +kernel
theorem dX8_meets_1 : decode cX8_meets 1 = .ok (.getfield 10, 3) := by decide +kernel
theorem dX8_meets_4 : decode cX8_meets 4 = .ok (.iload_n 1, 1) := by decide +kernel
theorem dX8_meets_5 : decode cX8_meets 5 = .ok (.invokevirtual 91, 3) := by decide +kernel
theorem dX8_meets_8 : decode cX8_meets 8 = .ok (.ifCond .eq 10, 3) := by decide +kernel
theorem dX8_meets_11 : decode cX8_meets 11 = .ok (.iload_n 2, 1) := by decide +kernel
theorem dX8_meets_12 : decode cX8_meets 12 = .ok (.invokestatic 95, 3) := by decide +kernel
theorem dX8_meets_15 : decode cX8_meets 15 = .ok (.ifCond .ne 10, 3) := by decide +kernel
theorem dX8_meets_18 : decode cX8_meets 18 = .ok (.aload_n 0, 1) := by decide +kernel
theorem dX8_meets_19 : decode cX8_meets 19 = .ok (.bipush (-2), 2) := by decide +kernel
theorem dX8_meets_21 : decode cX8_meets 21 = .ok (.invokevirtual 68, 3) := by decide +kernel
theorem dX8_meets_24 : decode cX8_meets 24 = .ok (.ireturn, 1) := by decide +kernel
theorem dX8_meets_25 : decode cX8_meets 25 = .ok (.aload_n 0, 1) := by decide +kernel
theorem dX8_meets_26 : decode cX8_meets 26 = .ok (.getfield 10, 3) := by decide +kernel
theorem dX8_meets_29 : decode cX8_meets 29 = .ok (.getfield 98, 3) := by decide +kernel
theorem dX8_meets_32 : decode cX8_meets 32 = .ok (.iload_n 1, 1) := by decide +kernel
theorem dX8_meets_33 : decode cX8_meets 33 = .ok (.iload_n 2, 1) := by decide +kernel
theorem dX8_meets_34 : decode cX8_meets 34 = .ok (.invokevirtual 102, 3) := by decide +kernel
theorem dX8_meets_37 : decode cX8_meets 37 = .ok (.ifCond .ne 19, 3) := by decide +kernel
theorem dX8_meets_40 : decode cX8_meets 40 = .ok (.aload_n 0, 1) := by decide +kernel
theorem dX8_meets_41 : decode cX8_meets 41 = .ok (.getfield 10, 3) := by decide +kernel
theorem dX8_meets_44 : decode cX8_meets 44 = .ok (.getfield 98, 3) := by decide +kernel
theorem dX8_meets_47 : decode cX8_meets 47 = .ok (.getfield 108, 3) := by decide +kernel
theorem dX8_meets_50 : decode cX8_meets 50 = .ok (.sipush 9999, 3) := by decide +kernel
theorem dX8_meets_53 : decode cX8_meets 53 = .ok (.if_icmp .lt 10, 3) := by decide +kernel
theorem dX8_meets_56 : decode cX8_meets 56 = .ok (.aload_n 0, 1) := by decide +kernel
theorem dX8_meets_57 : decode cX8_meets 57 = .ok (.bipush (-3), 2) := by decide +kernel
theorem dX8_meets_59 : decode cX8_meets 59 = .ok (.invokevirtual 68, 3) := by decide +kernel
theorem dX8_meets_62 : decode cX8_meets 62 = .ok (.ireturn, 1) := by decide +kernel
theorem dX8_meets_63 : decode cX8_meets 63 = .ok (.aload_n 0, 1) := by decide +kernel
theorem dX8_meets_64 : decode cX8_meets 64 = .ok (.getfield 10, 3) := by decide +kernel
theorem dX8_meets_67 : decode cX8_meets 67 = .ok (.invokevirtual 111, 3) := by decide +kernel
theorem dX8_meets_70 : decode cX8_meets 70 = .ok (.aload_n 0, 1) := by decide +kernel
theorem dX8_meets_71 : decode cX8_meets 71 = .ok (.getfield 10, 3) := by decide +kernel
theorem dX8_meets_74 : decode cX8_meets 74 = .ok (.iload_n 1, 1) := by decide +kernel
theorem dX8_meets_75 : decode cX8_meets 75 = .ok (.iload_n 2, 1) := by decide +kernel
theorem dX8_meets_76 : decode cX8_meets 76 = .ok (.invokevirtual 114, 3) := by decide +kernel
theorem dX8_meets_79 : decode cX8_meets 79 = .ok (.aload_n 0, 1) := by decide +kernel
theorem dX8_meets_80 : decode cX8_meets 80 = .ok (.getfield 10, 3) := by decide +kernel
theorem dX8_meets_83 : decode cX8_meets 83 = .ok (.getfield 98, 3) := by decide +kernel
theorem dX8_meets_86 : decode cX8_meets 86 = .ok (.iload_n 1, 1) := by decide +kernel
theorem dX8_meets_87 : decode cX8_meets 87 = .ok (.iload_n 2, 1) := by decide +kernel
theorem dX8_meets_88 : decode cX8_meets 88 = .ok (.invokevirtual 102, 3) := by decide +kernel
theorem dX8_meets_91 : decode cX8_meets 91 = .ok (.ifCond .eq 7, 3) := by decide +kernel
theorem dX8_meets_94 : decode cX8_meets 94 = .ok (.iconst 1, 1) := by decide +kernel
theorem dX8_meets_95 : decode cX8_meets 95 = .ok (.goto 4, 3) := by decide +kernel
theorem dX8_meets_98 : decode cX8_meets 98 = .ok (.iconst 0, 1) := by decide +kernel
theorem dX8_meets_99 : decode cX8_meets 99 = .ok (.ireturn, 1) := by decide +kernel
theorem dX8_goes_0 : decode cX8_goes 0 = .ok (.aload_n 0, 1) := by decide +kernel
theorem dX8_goes_1 : decode cX8_goes 1 = .ok (.getfield 10, 3) := by decide +kernel
theorem dX8_goes_4 : decode cX8_goes 4 = .ok (.iload_n 1, 1) := by decide +kernel
theorem dX8_goes_5 : decode cX8_goes 5 = .ok (.invokevirtual 91, 3) := by decide +kernel
theorem dX8_goes_8 : decode cX8_goes 8 = .ok (.ifCond .eq 12, 3) := by decide +kernel
theorem dX8_goes_11 : decode cX8_goes 11 = .ok (.iload_n 2, 1) := by decide +kernel
theorem dX8_goes_12 : decode cX8_goes 12 = .ok (.iconst 0, 1) := by decide +kernel
theorem dX8_goes_13 : decode cX8_goes 13 = .ok (.iconst 1, 1) := by decide +kernel
theorem dX8_goes_14 : decode cX8_goes 14 = .ok (.invokestatic 64, 3) := by decide +kernel
theorem dX8_goes_17 : decode cX8_goes 17 = .ok (.ifCond .ne 8, 3) := by decide +kernel
theorem dX8_goes_20 : decode cX8_goes 20 = .ok (.aload_n 0, 1) := by decide +kernel
theorem dX8_goes_21 : decode cX8_goes 21 = .ok (.invokevirtual 117, 3) := by decide +kernel
theorem dX8_goes_24 : decode cX8_goes 24 = .ok (.ireturn, 1) := by decide +kernel
theorem dX8_goes_25 : decode cX8_goes 25 = .ok (.iload_n 2, 1) := by decide +kernel
theorem dX8_goes_26 : decode cX8_goes 26 = .ok (.iconst 1, 1) := by decide +kernel
theorem dX8_goes_27 : decode cX8_goes 27 = .ok (.if_icmp .ne 8, 3) := by decide +kernel
theorem dX8_goes_30 : decode cX8_goes 30 = .ok (.bipush 8, 2) := by decide +kernel
theorem dX8_goes_32 : decode cX8_goes 32 = .ok (.goto 4, 3) := by decide +kernel
theorem dX8_goes_35 : decode cX8_goes 35 = .ok (.iconst (-1), 1) := by decide +kernel
theorem dX8_goes_36 : decode cX8_goes 36 = .ok (.istore_n 3, 1) := by decide +kernel
theorem dX8_goes_37 : decode cX8_goes 37 = .ok (.aload_n 0, 1) := by decide +kernel
theorem dX8_goes_38 : decode cX8_goes 38 = .ok (.getfield 10, 3) := by decide +kernel
theorem dX8_goes_41 : decode cX8_goes 41 = .ok (.getfield 98, 3) := by decide +kernel
theorem dX8_goes_44 : decode cX8_goes 44 = .ok (.getfield 121, 3) := by decide +kernel
theorem dX8_goes_47 : decode cX8_goes 47 = .ok (.iload_n 1, 1) := by decide +kernel
theorem dX8_goes_48 : decode cX8_goes 48 = .ok (.iaload, 1) := by decide +kernel
theorem dX8_goes_49 : decode cX8_goes 49 = .ok (.iload_n 3, 1) := by decide +kernel
theorem dX8_goes_50 : decode cX8_goes 50 = .ok (.if_icmp .eq 19, 3) := by decide +kernel
theorem dX8_goes_53 : decode cX8_goes 53 = .ok (.aload_n 0, 1) := by decide +kernel
theorem dX8_goes_54 : decode cX8_goes 54 = .ok (.getfield 10, 3) := by decide +kernel
theorem dX8_goes_57 : decode cX8_goes 57 = .ok (.getfield 98, 3) := by decide +kernel
theorem dX8_goes_60 : decode cX8_goes 60 = .ok (.getfield 108, 3) := by decide +kernel
theorem dX8_goes_63 : decode cX8_goes 63 = .ok (.sipush 9999, 3) := by decide +kernel
theorem dX8_goes_66 : decode cX8_goes 66 = .ok (.if_icmp .lt 10, 3) := by decide +kernel
theorem dX8_goes_69 : decode cX8_goes 69 = .ok (.aload_n 0, 1) := by decide +kernel
theorem dX8_goes_70 : decode cX8_goes 70 = .ok (.bipush (-3), 2) := by decide +kernel
theorem dX8_goes_72 : decode cX8_goes 72 = .ok (.invokevirtual 68, 3) := by decide +kernel
theorem dX8_goes_75 : decode cX8_goes 75 = .ok (.ireturn, 1) := by decide +kernel
theorem dX8_goes_76 : decode cX8_goes 76 = .ok (.aload_n 0, 1) := by decide +kernel
theorem dX8_goes_77 : decode cX8_goes 77 = .ok (.getfield 10, 3) := by decide +kernel
theorem dX8_goes_80 : decode cX8_goes 80 = .ok (.invokevirtual 111, 3) := by decide +kernel
theorem dX8_goes_83 : decode cX8_goes 83 = .ok (.aload_n 0, 1) := by decide +kernel
theorem dX8_goes_84 : decode cX8_goes 84 = .ok (.getfield 10, 3) := by decide +kernel
theorem dX8_goes_87 : decode cX8_goes 87 = .ok (.getfield 98, 3) := by decide +kernel
theorem dX8_goes_90 : decode cX8_goes 90 = .ok (.iload_n 1, 1) := by decide +kernel
theorem dX8_goes_91 : decode cX8_goes 91 = .ok (.iload_n 2, 1) := by decide +kernel
theorem dX8_goes_92 : decode cX8_goes 92 = .ok (.invokevirtual 125, 3) := by decide +kernel
theorem dX8_goes_95 : decode cX8_goes 95 = .ok (.aload_n 0, 1) := by decide +kernel
theorem dX8_goes_96 : decode cX8_goes 96 = .ok (.getfield 10, 3) := by decide +kernel
theorem dX8_goes_99 : decode cX8_goes 99 = .ok (.getfield 98, 3) := by decide +kernel
theorem dX8_goes_102 : decode cX8_goes 102 = .ok (.invokevirtual 128, 3) := by decide +kernel
theorem dX8_goes_105 : decode cX8_goes 105 = .ok (.aload_n 0, 1) := by decide +kernel
theorem dX8_goes_106 : decode cX8_goes 106 = .ok (.getfield 10, 3) := by decide +kernel
theorem dX8_goes_109 : decode cX8_goes 109 = .ok (.getfield 98, 3) := by decide +kernel
theorem dX8_goes_112 : decode cX8_goes 112 = .ok (.getfield 121, 3) := by decide +kernel
theorem dX8_goes_115 : decode cX8_goes 115 = .ok (.iload_n 1, 1) := by decide +kernel
theorem dX8_goes_116 : decode cX8_goes 116 = .ok (.iaload, 1) := by decide +kernel
theorem dX8_goes_117 : decode cX8_goes 117 = .ok (.ireturn, 1) := by decide +kernel
theorem dX8_waits_0 : decode cX8_waits 0 = .ok (.iload_n 1, 1) := by decide +kernel
theorem dX8_waits_1 : decode cX8_waits 1 = .ok (.iconst 1, 1) := by decide +kernel
theorem dX8_waits_2 : decode cX8_waits 2 = .ok (.bipush 60, 2) := by decide +kernel
theorem dX8_waits_4 : decode cX8_waits 4 = .ok (.invokestatic 64, 3) := by decide +kernel
theorem dX8_waits_7 : decode cX8_waits 7 = .ok (.ifCond .ne 10, 3) := by decide +kernel
theorem dX8_waits_10 : decode cX8_waits 10 = .ok (.aload_n 0, 1) := by decide +kernel
theorem dX8_waits_11 : decode cX8_waits 11 = .ok (.bipush (-2), 2) := by decide +kernel
theorem dX8_waits_13 : decode cX8_waits 13 = .ok (.invokevirtual 68, 3) := by decide +kernel
theorem dX8_waits_16 : decode cX8_waits 16 = .ok (.ireturn, 1) := by decide +kernel
theorem dX8_waits_17 : decode cX8_waits 17 = .ok (.aload_n 0, 1) := by decide +kernel
theorem dX8_waits_18 : decode cX8_waits 18 = .ok (.getfield 10, 3) := by decide +kernel
theorem dX8_waits_21 : decode cX8_waits 21 = .ok (.invokevirtual 111, 3) := by decide +kernel
theorem dX8_waits_24 : decode cX8_waits 24 = .ok (.aload_n 0, 1) := by decide +kernel
theorem dX8_waits_25 : decode cX8_waits 25 = .ok (.getfield 10, 3) := by decide +kernel
theorem dX8_waits_28 : decode cX8_waits 28 = .ok (.getfield 98, 3) := by decide +kernel
theorem dX8_waits_31 : decode cX8_waits 31 = .ok (.iload_n 1, 1) := by decide +kernel
theorem dX8_waits_32 : decode cX8_waits 32 = .ok (.invokevirtual 131, 3) := by decide +kernel
theorem dX8_waits_35 : decode cX8_waits 35 = .ok (.aload_n 0, 1) := by decide +kernel
theorem dX8_waits_36 : decode cX8_waits 36 = .ok (.getfield 10, 3) := by decide +kernel
theorem dX8_waits_39 : decode cX8_waits 39 = .ok (.getfield 98, 3) := by decide +kernel
theorem dX8_waits_42 : decode cX8_waits 42 = .ok (.invokevirtual 134, 3) := by decide +kernel
theorem dX8_waits_45 : decode cX8_waits 45 = .ok (.ireturn, 1) := by decide +kernel
theorem dX8_carpet_0 : decode cX8_carpet 0 = .ok (.iload_n 1, 1) := by decide +kernel
theorem dX8_carpet_1 : decode cX8_carpet 1 = .ok (.iconst 0, 1) := by decide +kernel
theorem dX8_carpet_2 : decode cX8_carpet 2 = .ok (.bipush 6, 2) := by decide +kernel
theorem dX8_carpet_4 : decode cX8_carpet 4 = .ok (.invokestatic 64, 3) := by decide +kernel
theorem dX8_carpet_7 : decode cX8_carpet 7 = .ok (.ifCond .eq 12, 3) := by decide +kernel
theorem dX8_carpet_10 : decode cX8_carpet 10 = .ok (.iload_n 2, 1) := by decide +kernel
theorem dX8_carpet_11 : decode cX8_carpet 11 = .ok (.iconst 0, 1) := by decide +kernel
theorem dX8_carpet_12 : decode cX8_carpet 12 = .ok (.iconst 1, 1) := by decide +kernel
theorem dX8_carpet_13 : decode cX8_carpet 13 = .ok (.invokestatic 64, 3) := by decide +kernel
theorem dX8_carpet_16 : decode cX8_carpet 16 = .ok (.ifCond .ne 10, 3) := by decide +kernel
theorem dX8_carpet_19 : decode cX8_carpet 19 = .ok (.aload_n 0, 1) := by decide +kernel
theorem dX8_carpet_20 : decode cX8_carpet 20 = .ok (.bipush (-2), 2) := by decide +kernel
theorem dX8_carpet_22 : decode cX8_carpet 22 = .ok (.invokevirtual 68, 3) := by decide +kernel
theorem dX8_carpet_25 : decode cX8_carpet 25 = .ok (.ireturn, 1) := by decide +kernel
theorem dX8_carpet_26 : decode cX8_carpet 26 = .ok (.aload_n 0, 1) := by decide +kernel
theorem dX8_carpet_27 : decode cX8_carpet 27 = .ok (.getfield 10, 3) := by decide +kernel
theorem dX8_carpet_30 : decode cX8_carpet 30 = .ok (.getfield 98, 3) := by decide +kernel
theorem dX8_carpet_33 : decode cX8_carpet 33 = .ok (.getfield 137, 3) := by decide +kernel
theorem dX8_carpet_36 : decode cX8_carpet 36 = .ok (.iload_n 1, 1) := by decide +kernel
theorem dX8_carpet_37 : decode cX8_carpet 37 = .ok (.ishr, 1) := by decide +kernel
theorem dX8_carpet_38 : decode cX8_carpet 38 = .ok (.iconst 1, 1) := by decide +kernel
theorem dX8_carpet_39 : decode cX8_carpet 39 = .ok (.iand, 1) := by decide +kernel
theorem dX8_carpet_40 : decode cX8_carpet 40 = .ok (.istore_n 3, 1) := by decide +kernel
theorem dX8_carpet_41 : decode cX8_carpet 41 = .ok (.iload_n 3, 1) := by decide +kernel
theorem dX8_carpet_42 : decode cX8_carpet 42 = .ok (.iload_n 2, 1) := by decide +kernel
theorem dX8_carpet_43 : decode cX8_carpet 43 = .ok (.if_icmp .ne 10, 3) := by decide +kernel
theorem dX8_carpet_46 : decode cX8_carpet 46 = .ok (.aload_n 0, 1) := by decide +kernel
theorem dX8_carpet_47 : decode cX8_carpet 47 = .ok (.bipush (-3), 2) := by decide +kernel
theorem dX8_carpet_49 : decode cX8_carpet 49 = .ok (.invokevirtual 68, 3) := by decide +kernel
theorem dX8_carpet_52 : decode cX8_carpet 52 = .ok (.ireturn, 1) := by decide +kernel
theorem dX8_carpet_53 : decode cX8_carpet 53 = .ok (.aload_n 0, 1) := by decide +kernel
theorem dX8_carpet_54 : decode cX8_carpet 54 = .ok (.getfield 10, 3) := by decide +kernel
theorem dX8_carpet_57 : decode cX8_carpet 57 = .ok (.invokevirtual 111, 3) := by decide +kernel
theorem dX8_carpet_60 : decode cX8_carpet 60 = .ok (.aload_n 0, 1) := by decide +kernel
theorem dX8_carpet_61 : decode cX8_carpet 61 = .ok (.getfield 10, 3) := by decide +kernel
theorem dX8_carpet_64 : decode cX8_carpet 64 = .ok (.getfield 98, 3) := by decide +kernel
theorem dX8_carpet_67 : decode cX8_carpet 67 = .ok (.dup, 1) := by decide +kernel
theorem dX8_carpet_68 : decode cX8_carpet 68 = .ok (.getfield 137, 3) := by decide +kernel
theorem dX8_carpet_71 : decode cX8_carpet 71 = .ok (.iconst 1, 1) := by decide +kernel
theorem dX8_carpet_72 : decode cX8_carpet 72 = .ok (.iload_n 1, 1) := by decide +kernel
theorem dX8_carpet_73 : decode cX8_carpet 73 = .ok (.ishl, 1) := by decide +kernel
theorem dX8_carpet_74 : decode cX8_carpet 74 = .ok (.ixor, 1) := by decide +kernel
theorem dX8_carpet_75 : decode cX8_carpet 75 = .ok (.putfield 137, 3) := by decide +kernel
theorem dX8_carpet_78 : decode cX8_carpet 78 = .ok (.iload_n 3, 1) := by decide +kernel
theorem dX8_carpet_79 : decode cX8_carpet 79 = .ok (.ireturn, 1) := by decide +kernel
theorem dX8_step_0 : decode cX8_step 0 = .ok (.iload_n 1, 1) := by decide +kernel
theorem dX8_step_1 : decode cX8_step 1 = .ok (.invokestatic 95, 3) := by decide +kernel
theorem dX8_step_4 : decode cX8_step 4 = .ok (.ifCond .eq 12, 3) := by decide +kernel
theorem dX8_step_7 : decode cX8_step 7 = .ok (.iload_n 2, 1) := by decide +kernel
theorem dX8_step_8 : decode cX8_step 8 = .ok (.iconst 0, 1) := by decide +kernel
theorem dX8_step_9 : decode cX8_step 9 = .ok (.iconst 5, 1) := by decide +kernel
theorem dX8_step_10 : decode cX8_step 10 = .ok (.invokestatic 64, 3) := by decide +kernel
theorem dX8_step_13 : decode cX8_step 13 = .ok (.ifCond .ne 10, 3) := by decide +kernel
theorem dX8_step_16 : decode cX8_step 16 = .ok (.aload_n 0, 1) := by decide +kernel
theorem dX8_step_17 : decode cX8_step 17 = .ok (.bipush (-2), 2) := by decide +kernel
theorem dX8_step_19 : decode cX8_step 19 = .ok (.invokevirtual 68, 3) := by decide +kernel
theorem dX8_step_22 : decode cX8_step 22 = .ok (.ireturn, 1) := by decide +kernel
theorem dX8_step_23 : decode cX8_step 23 = .ok (.aload_n 0, 1) := by decide +kernel
theorem dX8_step_24 : decode cX8_step 24 = .ok (.getfield 10, 3) := by decide +kernel
theorem dX8_step_27 : decode cX8_step 27 = .ok (.getfield 98, 3) := by decide +kernel
theorem dX8_step_30 : decode cX8_step 30 = .ok (.iload_n 1, 1) := by decide +kernel
theorem dX8_step_31 : decode cX8_step 31 = .ok (.invokevirtual 140, 3) := by decide +kernel
theorem dX8_step_34 : decode cX8_step 34 = .ok (.invokestatic 143, 3) := by decide +kernel
theorem dX8_step_37 : decode cX8_step 37 = .ok (.istore_n 3, 1) := by decide +kernel
theorem dX8_step_38 : decode cX8_step 38 = .ok (.aload_n 0, 1) := by decide +kernel
theorem dX8_step_39 : decode cX8_step 39 = .ok (.getfield 10, 3) := by decide +kernel
theorem dX8_step_42 : decode cX8_step 42 = .ok (.invokevirtual 111, 3) := by decide +kernel
theorem dX8_step_45 : decode cX8_step 45 = .ok (.aload_n 0, 1) := by decide +kernel
theorem dX8_step_46 : decode cX8_step 46 = .ok (.getfield 10, 3) := by decide +kernel
theorem dX8_step_49 : decode cX8_step 49 = .ok (.getfield 98, 3) := by decide +kernel
theorem dX8_step_52 : decode cX8_step 52 = .ok (.iload_n 1, 1) := by decide +kernel
theorem dX8_step_53 : decode cX8_step 53 = .ok (.iload_n 2, 1) := by decide +kernel
theorem dX8_step_54 : decode cX8_step 54 = .ok (.invokevirtual 148, 3) := by decide +kernel
theorem dX8_step_57 : decode cX8_step 57 = .ok (.iload_n 3, 1) := by decide +kernel
theorem dX8_step_58 : decode cX8_step 58 = .ok (.ireturn, 1) := by decide +kernel
theorem dX8_undo_0 : decode cX8_undo 0 = .ok (.aload_n 0, 1) := by decide +kernel
theorem dX8_undo_1 : decode cX8_undo 1 = .ok (.getfield 10, 3) := by decide +kernel
theorem dX8_undo_4 : decode cX8_undo 4 = .ok (.getfield 151, 3) := by decide +kernel
theorem dX8_undo_7 : decode cX8_undo 7 = .ok (.ifCond .ne 10, 3) := by decide +kernel
theorem dX8_undo_10 : decode cX8_undo 10 = .ok (.aload_n 0, 1) := by decide +kernel
theorem dX8_undo_11 : decode cX8_undo 11 = .ok (.bipush (-3), 2) := by decide +kernel
theorem dX8_undo_13 : decode cX8_undo 13 = .ok (.invokevirtual 68, 3) := by decide +kernel
theorem dX8_undo_16 : decode cX8_undo 16 = .ok (.ireturn, 1) := by decide +kernel
theorem dX8_undo_17 : decode cX8_undo 17 = .ok (.aload_n 0, 1) := by decide +kernel
theorem dX8_undo_18 : decode cX8_undo 18 = .ok (.getfield 10, 3) := by decide +kernel
theorem dX8_undo_21 : decode cX8_undo 21 = .ok (.invokevirtual 154, 3) := by decide +kernel
theorem dX8_undo_24 : decode cX8_undo 24 = .ok (.aload_n 0, 1) := by decide +kernel
theorem dX8_undo_25 : decode cX8_undo 25 = .ok (.getfield 10, 3) := by decide +kernel
theorem dX8_undo_28 : decode cX8_undo 28 = .ok (.getfield 98, 3) := by decide +kernel
theorem dX8_undo_31 : decode cX8_undo 31 = .ok (.getfield 108, 3) := by decide +kernel
theorem dX8_undo_34 : decode cX8_undo 34 = .ok (.ireturn, 1) := by decide +kernel
theorem dX8_of_0 : decode cX8_of 0 = .ok (.aload_n 0, 1) := by decide +kernel
theorem dX8_of_1 : decode cX8_of 1 = .ok (.getfield 10, 3) := by decide +kernel
theorem dX8_of_4 : decode cX8_of 4 = .ok (.iload_n 1, 1) := by decide +kernel
theorem dX8_of_5 : decode cX8_of 5 = .ok (.invokevirtual 91, 3) := by decide +kernel
theorem dX8_of_8 : decode cX8_of 8 = .ok (.ifCond .ne 8, 3) := by decide +kernel
theorem dX8_of_11 : decode cX8_of 11 = .ok (.aload_n 0, 1) := by decide +kernel
theorem dX8_of_12 : decode cX8_of 12 = .ok (.invokevirtual 117, 3) := by decide +kernel
theorem dX8_of_15 : decode cX8_of 15 = .ok (.ireturn, 1) := by decide +kernel
theorem dX8_of_16 : decode cX8_of 16 = .ok (.iload_n 2, 1) := by decide +kernel
theorem dX8_of_17 : decode cX8_of 17 = .ok (.tableswitch 77 0 3 #[31, 41, 51, 64], 31) := by decide +kernel
theorem dX8_of_48 : decode cX8_of 48 = .ok (.aload_n 0, 1) := by decide +kernel
theorem dX8_of_49 : decode cX8_of 49 = .ok (.getfield 10, 3) := by decide +kernel
theorem dX8_of_52 : decode cX8_of 52 = .ok (.getfield 157, 3) := by decide +kernel
theorem dX8_of_55 : decode cX8_of 55 = .ok (.iload_n 1, 1) := by decide +kernel
theorem dX8_of_56 : decode cX8_of 56 = .ok (.iaload, 1) := by decide +kernel
theorem dX8_of_57 : decode cX8_of 57 = .ok (.ireturn, 1) := by decide +kernel
theorem dX8_of_58 : decode cX8_of 58 = .ok (.aload_n 0, 1) := by decide +kernel
theorem dX8_of_59 : decode cX8_of 59 = .ok (.getfield 10, 3) := by decide +kernel
theorem dX8_of_62 : decode cX8_of 62 = .ok (.getfield 160, 3) := by decide +kernel
theorem dX8_of_65 : decode cX8_of 65 = .ok (.iload_n 1, 1) := by decide +kernel
theorem dX8_of_66 : decode cX8_of 66 = .ok (.iaload, 1) := by decide +kernel
theorem dX8_of_67 : decode cX8_of 67 = .ok (.ireturn, 1) := by decide +kernel
theorem dX8_of_68 : decode cX8_of 68 = .ok (.aload_n 0, 1) := by decide +kernel
theorem dX8_of_69 : decode cX8_of 69 = .ok (.getfield 10, 3) := by decide +kernel
theorem dX8_of_72 : decode cX8_of 72 = .ok (.getfield 98, 3) := by decide +kernel
theorem dX8_of_75 : decode cX8_of 75 = .ok (.getfield 121, 3) := by decide +kernel
theorem dX8_of_78 : decode cX8_of 78 = .ok (.iload_n 1, 1) := by decide +kernel
theorem dX8_of_79 : decode cX8_of 79 = .ok (.iaload, 1) := by decide +kernel
theorem dX8_of_80 : decode cX8_of 80 = .ok (.ireturn, 1) := by decide +kernel
theorem dX8_of_81 : decode cX8_of 81 = .ok (.aload_n 0, 1) := by decide +kernel
theorem dX8_of_82 : decode cX8_of 82 = .ok (.getfield 10, 3) := by decide +kernel
theorem dX8_of_85 : decode cX8_of 85 = .ok (.getfield 98, 3) := by decide +kernel
theorem dX8_of_88 : decode cX8_of 88 = .ok (.getfield 163, 3) := by decide +kernel
theorem dX8_of_91 : decode cX8_of 91 = .ok (.iload_n 1, 1) := by decide +kernel
theorem dX8_of_92 : decode cX8_of 92 = .ok (.iaload, 1) := by decide +kernel
theorem dX8_of_93 : decode cX8_of 93 = .ok (.ireturn, 1) := by decide +kernel
theorem dX8_of_94 : decode cX8_of 94 = .ok (.aload_n 0, 1) := by decide +kernel
theorem dX8_of_95 : decode cX8_of 95 = .ok (.invokevirtual 117, 3) := by decide +kernel
theorem dX8_of_98 : decode cX8_of 98 = .ok (.ireturn, 1) := by decide +kernel
theorem dX8_about_0 : decode cX8_about 0 = .ok (.iload_n 1, 1) := by decide +kernel
theorem dX8_about_1 : decode cX8_about 1 = .ok (.invokestatic 95, 3) := by decide +kernel
theorem dX8_about_4 : decode cX8_about 4 = .ok (.ifCond .ne 10, 3) := by decide +kernel
theorem dX8_about_7 : decode cX8_about 7 = .ok (.aload_n 0, 1) := by decide +kernel
theorem dX8_about_8 : decode cX8_about 8 = .ok (.bipush (-2), 2) := by decide +kernel
theorem dX8_about_10 : decode cX8_about 10 = .ok (.invokevirtual 68, 3) := by decide +kernel
theorem dX8_about_13 : decode cX8_about 13 = .ok (.ireturn, 1) := by decide +kernel
theorem dX8_about_14 : decode cX8_about 14 = .ok (.iload_n 2, 1) := by decide +kernel
theorem dX8_about_15 : decode cX8_about 15 = .ok (.tableswitch 65 0 2 #[25, 38, 50], 25) := by decide +kernel
theorem dX8_about_40 : decode cX8_about 40 = .ok (.aload_n 0, 1) := by decide +kernel
theorem dX8_about_41 : decode cX8_about 41 = .ok (.getfield 10, 3) := by decide +kernel
theorem dX8_about_44 : decode cX8_about 44 = .ok (.getfield 98, 3) := by decide +kernel
theorem dX8_about_47 : decode cX8_about 47 = .ok (.getfield 166, 3) := by decide +kernel
theorem dX8_about_50 : decode cX8_about 50 = .ok (.iload_n 1, 1) := by decide +kernel
theorem dX8_about_51 : decode cX8_about 51 = .ok (.iaload, 1) := by decide +kernel
theorem dX8_about_52 : decode cX8_about 52 = .ok (.ireturn, 1) := by decide +kernel
theorem dX8_about_53 : decode cX8_about 53 = .ok (.aload_n 0, 1) := by decide +kernel
theorem dX8_about_54 : decode cX8_about 54 = .ok (.getfield 10, 3) := by decide +kernel
theorem dX8_about_57 : decode cX8_about 57 = .ok (.getfield 98, 3) := by decide +kernel
theorem dX8_about_60 : decode cX8_about 60 = .ok (.iload_n 1, 1) := by decide +kernel
theorem dX8_about_61 : decode cX8_about 61 = .ok (.invokevirtual 140, 3) := by decide +kernel
theorem dX8_about_64 : decode cX8_about 64 = .ok (.ireturn, 1) := by decide +kernel
theorem dX8_about_65 : decode cX8_about 65 = .ok (.aload_n 0, 1) := by decide +kernel
theorem dX8_about_66 : decode cX8_about 66 = .ok (.getfield 10, 3) := by decide +kernel
theorem dX8_about_69 : decode cX8_about 69 = .ok (.getfield 98, 3) := by decide +kernel
theorem dX8_about_72 : decode cX8_about 72 = .ok (.getfield 137, 3) := by decide +kernel
theorem dX8_about_75 : decode cX8_about 75 = .ok (.iload_n 1, 1) := by decide +kernel
theorem dX8_about_76 : decode cX8_about 76 = .ok (.ishr, 1) := by decide +kernel
theorem dX8_about_77 : decode cX8_about 77 = .ok (.iconst 1, 1) := by decide +kernel
theorem dX8_about_78 : decode cX8_about 78 = .ok (.iand, 1) := by decide +kernel
theorem dX8_about_79 : decode cX8_about 79 = .ok (.ireturn, 1) := by decide +kernel
theorem dX8_about_80 : decode cX8_about 80 = .ok (.aload_n 0, 1) := by decide +kernel
theorem dX8_about_81 : decode cX8_about 81 = .ok (.bipush (-2), 2) := by decide +kernel
theorem dX8_about_83 : decode cX8_about 83 = .ok (.invokevirtual 68, 3) := by decide +kernel
theorem dX8_about_86 : decode cX8_about 86 = .ok (.ireturn, 1) := by decide +kernel
theorem dX8_asks_0 : decode cX8_asks 0 = .ok (.aload_n 0, 1) := by decide +kernel
theorem dX8_asks_1 : decode cX8_asks 1 = .ok (.getfield 10, 3) := by decide +kernel
theorem dX8_asks_4 : decode cX8_asks 4 = .ok (.iload_n 1, 1) := by decide +kernel
theorem dX8_asks_5 : decode cX8_asks 5 = .ok (.invokevirtual 91, 3) := by decide +kernel
theorem dX8_asks_8 : decode cX8_asks 8 = .ok (.ifCond .eq 10, 3) := by decide +kernel
theorem dX8_asks_11 : decode cX8_asks 11 = .ok (.iload_n 2, 1) := by decide +kernel
theorem dX8_asks_12 : decode cX8_asks 12 = .ok (.invokestatic 95, 3) := by decide +kernel
theorem dX8_asks_15 : decode cX8_asks 15 = .ok (.ifCond .ne 10, 3) := by decide +kernel
theorem dX8_asks_18 : decode cX8_asks 18 = .ok (.aload_n 0, 1) := by decide +kernel
theorem dX8_asks_19 : decode cX8_asks 19 = .ok (.bipush (-2), 2) := by decide +kernel
theorem dX8_asks_21 : decode cX8_asks 21 = .ok (.invokevirtual 68, 3) := by decide +kernel
theorem dX8_asks_24 : decode cX8_asks 24 = .ok (.ireturn, 1) := by decide +kernel
theorem dX8_asks_25 : decode cX8_asks 25 = .ok (.aload_n 0, 1) := by decide +kernel
theorem dX8_asks_26 : decode cX8_asks 26 = .ok (.getfield 10, 3) := by decide +kernel
theorem dX8_asks_29 : decode cX8_asks 29 = .ok (.getfield 98, 3) := by decide +kernel
theorem dX8_asks_32 : decode cX8_asks 32 = .ok (.getfield 108, 3) := by decide +kernel
theorem dX8_asks_35 : decode cX8_asks 35 = .ok (.istore 4, 2) := by decide +kernel
theorem dX8_asks_37 : decode cX8_asks 37 = .ok (.aload_n 0, 1) := by decide +kernel
theorem dX8_asks_38 : decode cX8_asks 38 = .ok (.getfield 10, 3) := by decide +kernel
theorem dX8_asks_41 : decode cX8_asks 41 = .ok (.iload_n 1, 1) := by decide +kernel
theorem dX8_asks_42 : decode cX8_asks 42 = .ok (.iload_n 2, 1) := by decide +kernel
theorem dX8_asks_43 : decode cX8_asks 43 = .ok (.invokevirtual 169, 3) := by decide +kernel
theorem dX8_asks_46 : decode cX8_asks 46 = .ok (.istore 5, 2) := by decide +kernel
theorem dX8_asks_48 : decode cX8_asks 48 = .ok (.iload_n 3, 1) := by decide +kernel
theorem dX8_asks_49 : decode cX8_asks 49 = .ok (.tableswitch 73 0 2 #[27, 39, 51], 27) := by decide +kernel
theorem dX8_asks_76 : decode cX8_asks 76 = .ok (.aload_n 0, 1) := by decide +kernel
theorem dX8_asks_77 : decode cX8_asks 77 = .ok (.getfield 10, 3) := by decide +kernel
theorem dX8_asks_80 : decode cX8_asks 80 = .ok (.iload_n 1, 1) := by decide +kernel
theorem dX8_asks_81 : decode cX8_asks 81 = .ok (.iload_n 2, 1) := by decide +kernel
theorem dX8_asks_82 : decode cX8_asks 82 = .ok (.iload 4, 2) := by decide +kernel
theorem dX8_asks_84 : decode cX8_asks 84 = .ok (.invokevirtual 173, 3) := by decide +kernel
theorem dX8_asks_87 : decode cX8_asks 87 = .ok (.ireturn, 1) := by decide +kernel
theorem dX8_asks_88 : decode cX8_asks 88 = .ok (.aload_n 0, 1) := by decide +kernel
theorem dX8_asks_89 : decode cX8_asks 89 = .ok (.getfield 10, 3) := by decide +kernel
theorem dX8_asks_92 : decode cX8_asks 92 = .ok (.iload 5, 2) := by decide +kernel
theorem dX8_asks_94 : decode cX8_asks 94 = .ok (.iload 4, 2) := by decide +kernel
theorem dX8_asks_96 : decode cX8_asks 96 = .ok (.invokevirtual 177, 3) := by decide +kernel
theorem dX8_asks_99 : decode cX8_asks 99 = .ok (.ireturn, 1) := by decide +kernel
theorem dX8_asks_100 : decode cX8_asks 100 = .ok (.aload_n 0, 1) := by decide +kernel
theorem dX8_asks_101 : decode cX8_asks 101 = .ok (.getfield 10, 3) := by decide +kernel
theorem dX8_asks_104 : decode cX8_asks 104 = .ok (.iload_n 1, 1) := by decide +kernel
theorem dX8_asks_105 : decode cX8_asks 105 = .ok (.iload_n 2, 1) := by decide +kernel
theorem dX8_asks_106 : decode cX8_asks 106 = .ok (.iload 5, 2) := by decide +kernel
theorem dX8_asks_108 : decode cX8_asks 108 = .ok (.iload 4, 2) := by decide +kernel
theorem dX8_asks_110 : decode cX8_asks 110 = .ok (.invokevirtual 180, 3) := by decide +kernel
theorem dX8_asks_113 : decode cX8_asks 113 = .ok (.ifCond .eq 7, 3) := by decide +kernel
theorem dX8_asks_116 : decode cX8_asks 116 = .ok (.iconst 1, 1) := by decide +kernel
theorem dX8_asks_117 : decode cX8_asks 117 = .ok (.goto 4, 3) := by decide +kernel
theorem dX8_asks_120 : decode cX8_asks 120 = .ok (.iconst 0, 1) := by decide +kernel
theorem dX8_asks_121 : decode cX8_asks 121 = .ok (.ireturn, 1) := by decide +kernel
theorem dX8_asks_122 : decode cX8_asks 122 = .ok (.aload_n 0, 1) := by decide +kernel
theorem dX8_asks_123 : decode cX8_asks 123 = .ok (.bipush (-2), 2) := by decide +kernel
theorem dX8_asks_125 : decode cX8_asks 125 = .ok (.invokevirtual 68, 3) := by decide +kernel
theorem dX8_asks_128 : decode cX8_asks 128 = .ok (.ireturn, 1) := by decide +kernel
theorem dX8_word_0 : decode cX8_word 0 = .ok (.aload_n 0, 1) := by decide +kernel
theorem dX8_word_1 : decode cX8_word 1 = .ok (.getfield 10, 3) := by decide +kernel
theorem dX8_word_4 : decode cX8_word 4 = .ok (.iload_n 1, 1) := by decide +kernel
theorem dX8_word_5 : decode cX8_word 5 = .ok (.invokevirtual 91, 3) := by decide +kernel
theorem dX8_word_8 : decode cX8_word 8 = .ok (.ifCond .ne 10, 3) := by decide +kernel
theorem dX8_word_11 : decode cX8_word 11 = .ok (.aload_n 0, 1) := by decide +kernel
theorem dX8_word_12 : decode cX8_word 12 = .ok (.bipush (-2), 2) := by decide +kernel
theorem dX8_word_14 : decode cX8_word 14 = .ok (.invokevirtual 68, 3) := by decide +kernel
theorem dX8_word_17 : decode cX8_word 17 = .ok (.ireturn, 1) := by decide +kernel
theorem dX8_word_18 : decode cX8_word 18 = .ok (.aload_n 0, 1) := by decide +kernel
theorem dX8_word_19 : decode cX8_word 19 = .ok (.getfield 10, 3) := by decide +kernel
theorem dX8_word_22 : decode cX8_word 22 = .ok (.iload_n 1, 1) := by decide +kernel
theorem dX8_word_23 : decode cX8_word 23 = .ok (.aload_n 0, 1) := by decide +kernel
theorem dX8_word_24 : decode cX8_word 24 = .ok (.getfield 10, 3) := by decide +kernel
theorem dX8_word_27 : decode cX8_word 27 = .ok (.getfield 98, 3) := by decide +kernel
theorem dX8_word_30 : decode cX8_word 30 = .ok (.getfield 108, 3) := by decide +kernel
theorem dX8_word_33 : decode cX8_word 33 = .ok (.invokevirtual 184, 3) := by decide +kernel
theorem dX8_word_36 : decode cX8_word 36 = .ok (.ireturn, 1) := by decide +kernel
theorem dX8_high_0 : decode cX8_high 0 = .ok (.aload_n 0, 1) := by decide +kernel
theorem dX8_high_1 : decode cX8_high 1 = .ok (.getfield 10, 3) := by decide +kernel
theorem dX8_high_4 : decode cX8_high 4 = .ok (.iload_n 1, 1) := by decide +kernel
theorem dX8_high_5 : decode cX8_high 5 = .ok (.invokevirtual 91, 3) := by decide +kernel
theorem dX8_high_8 : decode cX8_high 8 = .ok (.ifCond .ne 8, 3) := by decide +kernel
theorem dX8_high_11 : decode cX8_high 11 = .ok (.aload_n 0, 1) := by decide +kernel
theorem dX8_high_12 : decode cX8_high 12 = .ok (.invokevirtual 117, 3) := by decide +kernel
theorem dX8_high_15 : decode cX8_high 15 = .ok (.ireturn, 1) := by decide +kernel
theorem dX8_high_16 : decode cX8_high 16 = .ok (.aload_n 0, 1) := by decide +kernel
theorem dX8_high_17 : decode cX8_high 17 = .ok (.getfield 10, 3) := by decide +kernel
theorem dX8_high_20 : decode cX8_high 20 = .ok (.getfield 98, 3) := by decide +kernel
theorem dX8_high_23 : decode cX8_high 23 = .ok (.iload_n 1, 1) := by decide +kernel
theorem dX8_high_24 : decode cX8_high 24 = .ok (.invokevirtual 187, 3) := by decide +kernel
theorem dX8_high_27 : decode cX8_high 27 = .ok (.ireturn, 1) := by decide +kernel
theorem dX8_hears_0 : decode cX8_hears 0 = .ok (.aload_n 0, 1) := by decide +kernel
theorem dX8_hears_1 : decode cX8_hears 1 = .ok (.getfield 10, 3) := by decide +kernel
theorem dX8_hears_4 : decode cX8_hears 4 = .ok (.iload_n 1, 1) := by decide +kernel
theorem dX8_hears_5 : decode cX8_hears 5 = .ok (.invokevirtual 91, 3) := by decide +kernel
theorem dX8_hears_8 : decode cX8_hears 8 = .ok (.ifCond .eq 10, 3) := by decide +kernel
theorem dX8_hears_11 : decode cX8_hears 11 = .ok (.iload_n 2, 1) := by decide +kernel
theorem dX8_hears_12 : decode cX8_hears 12 = .ok (.invokestatic 95, 3) := by decide +kernel
theorem dX8_hears_15 : decode cX8_hears 15 = .ok (.ifCond .ne 10, 3) := by decide +kernel
theorem dX8_hears_18 : decode cX8_hears 18 = .ok (.aload_n 0, 1) := by decide +kernel
theorem dX8_hears_19 : decode cX8_hears 19 = .ok (.bipush (-2), 2) := by decide +kernel
theorem dX8_hears_21 : decode cX8_hears 21 = .ok (.invokevirtual 68, 3) := by decide +kernel
theorem dX8_hears_24 : decode cX8_hears 24 = .ok (.ireturn, 1) := by decide +kernel
theorem dX8_hears_25 : decode cX8_hears 25 = .ok (.aload_n 0, 1) := by decide +kernel
theorem dX8_hears_26 : decode cX8_hears 26 = .ok (.getfield 10, 3) := by decide +kernel
theorem dX8_hears_29 : decode cX8_hears 29 = .ok (.getfield 98, 3) := by decide +kernel
theorem dX8_hears_32 : decode cX8_hears 32 = .ok (.getfield 163, 3) := by decide +kernel
theorem dX8_hears_35 : decode cX8_hears 35 = .ok (.iload_n 1, 1) := by decide +kernel
theorem dX8_hears_36 : decode cX8_hears 36 = .ok (.iaload, 1) := by decide +kernel
theorem dX8_hears_37 : decode cX8_hears 37 = .ok (.istore_n 3, 1) := by decide +kernel
theorem dX8_hears_38 : decode cX8_hears 38 = .ok (.iconst 0, 1) := by decide +kernel
theorem dX8_hears_39 : decode cX8_hears 39 = .ok (.istore 4, 2) := by decide +kernel
theorem dX8_hears_41 : decode cX8_hears 41 = .ok (.iload 4, 2) := by decide +kernel
theorem dX8_hears_43 : decode cX8_hears 43 = .ok (.bipush 60, 2) := by decide +kernel
theorem dX8_hears_45 : decode cX8_hears 45 = .ok (.if_icmp .gt 33, 3) := by decide +kernel
theorem dX8_hears_48 : decode cX8_hears 48 = .ok (.iload_n 3, 1) := by decide +kernel
theorem dX8_hears_49 : decode cX8_hears 49 = .ok (.iload_n 2, 1) := by decide +kernel
theorem dX8_hears_50 : decode cX8_hears 50 = .ok (.ishr, 1) := by decide +kernel
theorem dX8_hears_51 : decode cX8_hears 51 = .ok (.iconst 1, 1) := by decide +kernel
theorem dX8_hears_52 : decode cX8_hears 52 = .ok (.iand, 1) := by decide +kernel
theorem dX8_hears_53 : decode cX8_hears 53 = .ok (.iconst 1, 1) := by decide +kernel
theorem dX8_hears_54 : decode cX8_hears 54 = .ok (.if_icmp .ne 6, 3) := by decide +kernel
theorem dX8_hears_57 : decode cX8_hears 57 = .ok (.iload 4, 2) := by decide +kernel
theorem dX8_hears_59 : decode cX8_hears 59 = .ok (.ireturn, 1) := by decide +kernel
theorem dX8_hears_60 : decode cX8_hears 60 = .ok (.aload_n 0, 1) := by decide +kernel
theorem dX8_hears_61 : decode cX8_hears 61 = .ok (.getfield 10, 3) := by decide +kernel
theorem dX8_hears_64 : decode cX8_hears 64 = .ok (.getfield 98, 3) := by decide +kernel
theorem dX8_hears_67 : decode cX8_hears 67 = .ok (.iload_n 3, 1) := by decide +kernel
theorem dX8_hears_68 : decode cX8_hears 68 = .ok (.invokevirtual 190, 3) := by decide +kernel
theorem dX8_hears_71 : decode cX8_hears 71 = .ok (.istore_n 3, 1) := by decide +kernel
theorem dX8_hears_72 : decode cX8_hears 72 = .ok (.iinc 4 1, 3) := by decide +kernel
theorem dX8_hears_75 : decode cX8_hears 75 = .ok (.goto (-34), 3) := by decide +kernel
theorem dX8_hears_78 : decode cX8_hears 78 = .ok (.iconst (-1), 1) := by decide +kernel
theorem dX8_hears_79 : decode cX8_hears 79 = .ok (.ireturn, 1) := by decide +kernel
theorem dX8_then_0 : decode cX8_then 0 = .ok (.aload_n 0, 1) := by decide +kernel
theorem dX8_then_1 : decode cX8_then 1 = .ok (.getfield 10, 3) := by decide +kernel
theorem dX8_then_4 : decode cX8_then 4 = .ok (.iload_n 1, 1) := by decide +kernel
theorem dX8_then_5 : decode cX8_then 5 = .ok (.invokevirtual 91, 3) := by decide +kernel
theorem dX8_then_8 : decode cX8_then 8 = .ok (.ifCond .eq 13, 3) := by decide +kernel
theorem dX8_then_11 : decode cX8_then 11 = .ok (.iload_n 2, 1) := by decide +kernel
theorem dX8_then_12 : decode cX8_then 12 = .ok (.iconst 0, 1) := by decide +kernel
theorem dX8_then_13 : decode cX8_then 13 = .ok (.bipush 60, 2) := by decide +kernel
theorem dX8_then_15 : decode cX8_then 15 = .ok (.invokestatic 64, 3) := by decide +kernel
theorem dX8_then_18 : decode cX8_then 18 = .ok (.ifCond .ne 10, 3) := by decide +kernel
theorem dX8_then_21 : decode cX8_then 21 = .ok (.aload_n 0, 1) := by decide +kernel
theorem dX8_then_22 : decode cX8_then 22 = .ok (.bipush (-2), 2) := by decide +kernel
theorem dX8_then_24 : decode cX8_then 24 = .ok (.invokevirtual 68, 3) := by decide +kernel
theorem dX8_then_27 : decode cX8_then 27 = .ok (.ireturn, 1) := by decide +kernel
theorem dX8_then_28 : decode cX8_then 28 = .ok (.aload_n 0, 1) := by decide +kernel
theorem dX8_then_29 : decode cX8_then 29 = .ok (.getfield 10, 3) := by decide +kernel
theorem dX8_then_32 : decode cX8_then 32 = .ok (.getfield 98, 3) := by decide +kernel
theorem dX8_then_35 : decode cX8_then 35 = .ok (.getfield 163, 3) := by decide +kernel
theorem dX8_then_38 : decode cX8_then 38 = .ok (.iload_n 1, 1) := by decide +kernel
theorem dX8_then_39 : decode cX8_then 39 = .ok (.iaload, 1) := by decide +kernel
theorem dX8_then_40 : decode cX8_then 40 = .ok (.istore_n 3, 1) := by decide +kernel
theorem dX8_then_41 : decode cX8_then 41 = .ok (.iconst 0, 1) := by decide +kernel
theorem dX8_then_42 : decode cX8_then 42 = .ok (.istore 4, 2) := by decide +kernel
theorem dX8_then_44 : decode cX8_then 44 = .ok (.iload 4, 2) := by decide +kernel
theorem dX8_then_46 : decode cX8_then 46 = .ok (.iload_n 2, 1) := by decide +kernel
theorem dX8_then_47 : decode cX8_then 47 = .ok (.if_icmp .ge 21, 3) := by decide +kernel
theorem dX8_then_50 : decode cX8_then 50 = .ok (.aload_n 0, 1) := by decide +kernel
theorem dX8_then_51 : decode cX8_then 51 = .ok (.getfield 10, 3) := by decide +kernel
theorem dX8_then_54 : decode cX8_then 54 = .ok (.getfield 98, 3) := by decide +kernel
theorem dX8_then_57 : decode cX8_then 57 = .ok (.iload_n 3, 1) := by decide +kernel
theorem dX8_then_58 : decode cX8_then 58 = .ok (.invokevirtual 190, 3) := by decide +kernel
theorem dX8_then_61 : decode cX8_then 61 = .ok (.istore_n 3, 1) := by decide +kernel
theorem dX8_then_62 : decode cX8_then 62 = .ok (.iinc 4 1, 3) := by decide +kernel
theorem dX8_then_65 : decode cX8_then 65 = .ok (.goto (-21), 3) := by decide +kernel
theorem dX8_then_68 : decode cX8_then 68 = .ok (.iload_n 3, 1) := by decide +kernel
theorem dX8_then_69 : decode cX8_then 69 = .ok (.ireturn, 1) := by decide +kernel
theorem dX8_plan_0 : decode cX8_plan 0 = .ok (.aload_n 0, 1) := by decide +kernel
theorem dX8_plan_1 : decode cX8_plan 1 = .ok (.getfield 10, 3) := by decide +kernel
theorem dX8_plan_4 : decode cX8_plan 4 = .ok (.iload_n 1, 1) := by decide +kernel
theorem dX8_plan_5 : decode cX8_plan 5 = .ok (.invokevirtual 91, 3) := by decide +kernel
theorem dX8_plan_8 : decode cX8_plan 8 = .ok (.ifCond .eq 24, 3) := by decide +kernel
theorem dX8_plan_11 : decode cX8_plan 11 = .ok (.iload_n 2, 1) := by decide +kernel
theorem dX8_plan_12 : decode cX8_plan 12 = .ok (.iconst 0, 1) := by decide +kernel
theorem dX8_plan_13 : decode cX8_plan 13 = .ok (.bipush 8, 2) := by decide +kernel
theorem dX8_plan_15 : decode cX8_plan 15 = .ok (.invokestatic 64, 3) := by decide +kernel
theorem dX8_plan_18 : decode cX8_plan 18 = .ok (.ifCond .eq 14, 3) := by decide +kernel
theorem dX8_plan_21 : decode cX8_plan 21 = .ok (.iload_n 3, 1) := by decide +kernel
theorem dX8_plan_22 : decode cX8_plan 22 = .ok (.bipush (-2), 2) := by decide +kernel
theorem dX8_plan_24 : decode cX8_plan 24 = .ok (.if_icmp .lt 8, 3) := by decide +kernel
theorem dX8_plan_27 : decode cX8_plan 27 = .ok (.iload_n 3, 1) := by decide +kernel
theorem dX8_plan_28 : decode cX8_plan 28 = .ok (.iconst (-1), 1) := by decide +kernel
theorem dX8_plan_29 : decode cX8_plan 29 = .ok (.if_icmp .ne 8, 3) := by decide +kernel
theorem dX8_plan_32 : decode cX8_plan 32 = .ok (.aload_n 0, 1) := by decide +kernel
theorem dX8_plan_33 : decode cX8_plan 33 = .ok (.invokevirtual 117, 3) := by decide +kernel
theorem dX8_plan_36 : decode cX8_plan 36 = .ok (.ireturn, 1) := by decide +kernel
theorem dX8_plan_37 : decode cX8_plan 37 = .ok (.aload_n 0, 1) := by decide +kernel
theorem dX8_plan_38 : decode cX8_plan 38 = .ok (.getfield 37, 3) := by decide +kernel
theorem dX8_plan_41 : decode cX8_plan 41 = .ok (.aload_n 0, 1) := by decide +kernel
theorem dX8_plan_42 : decode cX8_plan 42 = .ok (.getfield 10, 3) := by decide +kernel
theorem dX8_plan_45 : decode cX8_plan 45 = .ok (.iload_n 1, 1) := by decide +kernel
theorem dX8_plan_46 : decode cX8_plan 46 = .ok (.iload_n 2, 1) := by decide +kernel
theorem dX8_plan_47 : decode cX8_plan 47 = .ok (.invokevirtual 193, 3) := by decide +kernel
theorem dX8_plan_50 : decode cX8_plan 50 = .ok (.istore 4, 2) := by decide +kernel
theorem dX8_plan_52 : decode cX8_plan 52 = .ok (.iload 4, 2) := by decide +kernel
theorem dX8_plan_54 : decode cX8_plan 54 = .ok (.iconst (-1), 1) := by decide +kernel
theorem dX8_plan_55 : decode cX8_plan 55 = .ok (.if_icmp .ne 6, 3) := by decide +kernel
theorem dX8_plan_58 : decode cX8_plan 58 = .ok (.bipush (-6), 2) := by decide +kernel
theorem dX8_plan_60 : decode cX8_plan 60 = .ok (.ireturn, 1) := by decide +kernel
theorem dX8_plan_61 : decode cX8_plan 61 = .ok (.iload_n 3, 1) := by decide +kernel
theorem dX8_plan_62 : decode cX8_plan 62 = .ok (.bipush (-2), 2) := by decide +kernel
theorem dX8_plan_64 : decode cX8_plan 64 = .ok (.if_icmp .ne 6, 3) := by decide +kernel
theorem dX8_plan_67 : decode cX8_plan 67 = .ok (.iload 4, 2) := by decide +kernel
theorem dX8_plan_69 : decode cX8_plan 69 = .ok (.ireturn, 1) := by decide +kernel
theorem dX8_plan_70 : decode cX8_plan 70 = .ok (.iload_n 3, 1) := by decide +kernel
theorem dX8_plan_71 : decode cX8_plan 71 = .ok (.iload 4, 2) := by decide +kernel
theorem dX8_plan_73 : decode cX8_plan 73 = .ok (.if_icmp .ge 14, 3) := by decide +kernel
theorem dX8_plan_76 : decode cX8_plan 76 = .ok (.aload_n 0, 1) := by decide +kernel
theorem dX8_plan_77 : decode cX8_plan 77 = .ok (.getfield 37, 3) := by decide +kernel
theorem dX8_plan_80 : decode cX8_plan 80 = .ok (.iload_n 3, 1) := by decide +kernel
theorem dX8_plan_81 : decode cX8_plan 81 = .ok (.invokevirtual 197, 3) := by decide +kernel
theorem dX8_plan_84 : decode cX8_plan 84 = .ok (.goto 5, 3) := by decide +kernel
theorem dX8_plan_87 : decode cX8_plan 87 = .ok (.bipush (-5), 2) := by decide +kernel
theorem dX8_plan_89 : decode cX8_plan 89 = .ok (.ireturn, 1) := by decide +kernel
theorem dX8_seen_0 : decode cX8_seen 0 = .ok (.aload_n 0, 1) := by decide +kernel
theorem dX8_seen_1 : decode cX8_seen 1 = .ok (.getfield 10, 3) := by decide +kernel
theorem dX8_seen_4 : decode cX8_seen 4 = .ok (.iload_n 1, 1) := by decide +kernel
theorem dX8_seen_5 : decode cX8_seen 5 = .ok (.invokevirtual 91, 3) := by decide +kernel
theorem dX8_seen_8 : decode cX8_seen 8 = .ok (.ifCond .eq 19, 3) := by decide +kernel
theorem dX8_seen_11 : decode cX8_seen 11 = .ok (.iload_n 2, 1) := by decide +kernel
theorem dX8_seen_12 : decode cX8_seen 12 = .ok (.invokestatic 95, 3) := by decide +kernel
theorem dX8_seen_15 : decode cX8_seen 15 = .ok (.ifCond .eq 12, 3) := by decide +kernel
theorem dX8_seen_18 : decode cX8_seen 18 = .ok (.iload_n 3, 1) := by decide +kernel
theorem dX8_seen_19 : decode cX8_seen 19 = .ok (.iconst 0, 1) := by decide +kernel
theorem dX8_seen_20 : decode cX8_seen 20 = .ok (.iconst 1, 1) := by decide +kernel
theorem dX8_seen_21 : decode cX8_seen 21 = .ok (.invokestatic 64, 3) := by decide +kernel
theorem dX8_seen_24 : decode cX8_seen 24 = .ok (.ifCond .ne 10, 3) := by decide +kernel
theorem dX8_seen_27 : decode cX8_seen 27 = .ok (.aload_n 0, 1) := by decide +kernel
theorem dX8_seen_28 : decode cX8_seen 28 = .ok (.bipush (-2), 2) := by decide +kernel
theorem dX8_seen_30 : decode cX8_seen 30 = .ok (.invokevirtual 68, 3) := by decide +kernel
theorem dX8_seen_33 : decode cX8_seen 33 = .ok (.ireturn, 1) := by decide +kernel
theorem dX8_seen_34 : decode cX8_seen 34 = .ok (.aload_n 0, 1) := by decide +kernel
theorem dX8_seen_35 : decode cX8_seen 35 = .ok (.aload_n 0, 1) := by decide +kernel
theorem dX8_seen_36 : decode cX8_seen 36 = .ok (.getfield 10, 3) := by decide +kernel
theorem dX8_seen_39 : decode cX8_seen 39 = .ok (.getfield 200, 3) := by decide +kernel
theorem dX8_seen_42 : decode cX8_seen 42 = .ok (.iload_n 1, 1) := by decide +kernel
theorem dX8_seen_43 : decode cX8_seen 43 = .ok (.iload_n 2, 1) := by decide +kernel
theorem dX8_seen_44 : decode cX8_seen 44 = .ok (.iload_n 3, 1) := by decide +kernel
theorem dX8_seen_45 : decode cX8_seen 45 = .ok (.iconst 0, 1) := by decide +kernel
theorem dX8_seen_46 : decode cX8_seen 46 = .ok (.invokevirtual 204, 3) := by decide +kernel
theorem dX8_seen_49 : decode cX8_seen 49 = .ok (.ireturn, 1) := by decide +kernel
theorem dX8_may_0 : decode cX8_may 0 = .ok (.aload_n 0, 1) := by decide +kernel
theorem dX8_may_1 : decode cX8_may 1 = .ok (.getfield 10, 3) := by decide +kernel
theorem dX8_may_4 : decode cX8_may 4 = .ok (.iload_n 1, 1) := by decide +kernel
theorem dX8_may_5 : decode cX8_may 5 = .ok (.invokevirtual 91, 3) := by decide +kernel
theorem dX8_may_8 : decode cX8_may 8 = .ok (.ifCond .eq 12, 3) := by decide +kernel
theorem dX8_may_11 : decode cX8_may 11 = .ok (.iload_n 2, 1) := by decide +kernel
theorem dX8_may_12 : decode cX8_may 12 = .ok (.iconst 0, 1) := by decide +kernel
theorem dX8_may_13 : decode cX8_may 13 = .ok (.iconst 2, 1) := by decide +kernel
theorem dX8_may_14 : decode cX8_may 14 = .ok (.invokestatic 64, 3) := by decide +kernel
theorem dX8_may_17 : decode cX8_may 17 = .ok (.ifCond .ne 10, 3) := by decide +kernel
theorem dX8_may_20 : decode cX8_may 20 = .ok (.aload_n 0, 1) := by decide +kernel
theorem dX8_may_21 : decode cX8_may 21 = .ok (.bipush (-2), 2) := by decide +kernel
theorem dX8_may_23 : decode cX8_may 23 = .ok (.invokevirtual 68, 3) := by decide +kernel
theorem dX8_may_26 : decode cX8_may 26 = .ok (.ireturn, 1) := by decide +kernel
theorem dX8_may_27 : decode cX8_may 27 = .ok (.iconst 0, 1) := by decide +kernel
theorem dX8_may_28 : decode cX8_may 28 = .ok (.istore_n 3, 1) := by decide +kernel
theorem dX8_may_29 : decode cX8_may 29 = .ok (.sipush 255, 3) := by decide +kernel
theorem dX8_may_32 : decode cX8_may 32 = .ok (.istore 4, 2) := by decide +kernel
theorem dX8_may_34 : decode cX8_may 34 = .ok (.iconst 0, 1) := by decide +kernel
theorem dX8_may_35 : decode cX8_may 35 = .ok (.istore 5, 2) := by decide +kernel
theorem dX8_may_37 : decode cX8_may 37 = .ok (.iconst 0, 1) := by decide +kernel
theorem dX8_may_38 : decode cX8_may 38 = .ok (.istore 6, 2) := by decide +kernel
theorem dX8_may_40 : decode cX8_may 40 = .ok (.iload 6, 2) := by decide +kernel
theorem dX8_may_42 : decode cX8_may 42 = .ok (.sipush 256, 3) := by decide +kernel
theorem dX8_may_45 : decode cX8_may 45 = .ok (.if_icmp .ge 39, 3) := by decide +kernel
theorem dX8_may_48 : decode cX8_may 48 = .ok (.aload_n 0, 1) := by decide +kernel
theorem dX8_may_49 : decode cX8_may 49 = .ok (.getfield 10, 3) := by decide +kernel
theorem dX8_may_52 : decode cX8_may 52 = .ok (.iload_n 1, 1) := by decide +kernel
theorem dX8_may_53 : decode cX8_may 53 = .ok (.iload 6, 2) := by decide +kernel
theorem dX8_may_55 : decode cX8_may 55 = .ok (.invokevirtual 208, 3) := by decide +kernel
theorem dX8_may_58 : decode cX8_may 58 = .ok (.ifCond .eq 20, 3) := by decide +kernel
theorem dX8_may_61 : decode cX8_may 61 = .ok (.iinc 3 1, 3) := by decide +kernel
theorem dX8_may_64 : decode cX8_may 64 = .ok (.iload 4, 2) := by decide +kernel
theorem dX8_may_66 : decode cX8_may 66 = .ok (.iload 6, 2) := by decide +kernel
theorem dX8_may_68 : decode cX8_may 68 = .ok (.iand, 1) := by decide +kernel
theorem dX8_may_69 : decode cX8_may 69 = .ok (.istore 4, 2) := by decide +kernel
theorem dX8_may_71 : decode cX8_may 71 = .ok (.iload 5, 2) := by decide +kernel
theorem dX8_may_73 : decode cX8_may 73 = .ok (.iload 6, 2) := by decide +kernel
theorem dX8_may_75 : decode cX8_may 75 = .ok (.ior, 1) := by decide +kernel
theorem dX8_may_76 : decode cX8_may 76 = .ok (.istore 5, 2) := by decide +kernel
theorem dX8_may_78 : decode cX8_may 78 = .ok (.iinc 6 1, 3) := by decide +kernel
theorem dX8_may_81 : decode cX8_may 81 = .ok (.goto (-41), 3) := by decide +kernel
theorem dX8_may_84 : decode cX8_may 84 = .ok (.iload_n 2, 1) := by decide +kernel
theorem dX8_may_85 : decode cX8_may 85 = .ok (.lookupswitch 40 #[(0, 27), (1, 29)], 27) := by decide +kernel
theorem dX8_may_112 : decode cX8_may 112 = .ok (.iload_n 3, 1) := by decide +kernel
theorem dX8_may_113 : decode cX8_may 113 = .ok (.ireturn, 1) := by decide +kernel
theorem dX8_may_114 : decode cX8_may 114 = .ok (.iload_n 3, 1) := by decide +kernel
theorem dX8_may_115 : decode cX8_may 115 = .ok (.ifCond .ne 7, 3) := by decide +kernel
theorem dX8_may_118 : decode cX8_may 118 = .ok (.iconst (-1), 1) := by decide +kernel
theorem dX8_may_119 : decode cX8_may 119 = .ok (.goto 5, 3) := by decide +kernel
theorem dX8_may_122 : decode cX8_may 122 = .ok (.iload 4, 2) := by decide +kernel
theorem dX8_may_124 : decode cX8_may 124 = .ok (.ireturn, 1) := by decide +kernel
theorem dX8_may_125 : decode cX8_may 125 = .ok (.iload 5, 2) := by decide +kernel
theorem dX8_may_127 : decode cX8_may 127 = .ok (.ireturn, 1) := by decide +kernel
theorem dX8_note_0 : decode cX8_note 0 = .ok (.iload_n 1, 1) := by decide +kernel
theorem dX8_note_1 : decode cX8_note 1 = .ok (.invokestatic 95, 3) := by decide +kernel
theorem dX8_note_4 : decode cX8_note 4 = .ok (.ifCond .eq 34, 3) := by decide +kernel
theorem dX8_note_7 : decode cX8_note 7 = .ok (.iload_n 2, 1) := by decide +kernel
theorem dX8_note_8 : decode cX8_note 8 = .ok (.iconst 1, 1) := by decide +kernel
theorem dX8_note_9 : decode cX8_note 9 = .ok (.bipush 12, 2) := by decide +kernel
theorem dX8_note_11 : decode cX8_note 11 = .ok (.invokestatic 64, 3) := by decide +kernel
theorem dX8_note_14 : decode cX8_note 14 = .ok (.ifCond .eq 24, 3) := by decide +kernel
theorem dX8_note_17 : decode cX8_note 17 = .ok (.iload_n 3, 1) := by decide +kernel
theorem dX8_note_18 : decode cX8_note 18 = .ok (.iconst 0, 1) := by decide +kernel
theorem dX8_note_19 : decode cX8_note 19 = .ok (.bipush 23, 2) := by decide +kernel
theorem dX8_note_21 : decode cX8_note 21 = .ok (.invokestatic 64, 3) := by decide +kernel
theorem dX8_note_24 : decode cX8_note 24 = .ok (.ifCond .eq 14, 3) := by decide +kernel
theorem dX8_note_27 : decode cX8_note 27 = .ok (.iload 4, 2) := by decide +kernel
theorem dX8_note_29 : decode cX8_note 29 = .ok (.iconst 0, 1) := by decide +kernel
theorem dX8_note_30 : decode cX8_note 30 = .ok (.bipush 9, 2) := by decide +kernel
theorem dX8_note_32 : decode cX8_note 32 = .ok (.invokestatic 64, 3) := by decide +kernel
theorem dX8_note_35 : decode cX8_note 35 = .ok (.ifCond .ne 10, 3) := by decide +kernel
theorem dX8_note_38 : decode cX8_note 38 = .ok (.aload_n 0, 1) := by decide +kernel
theorem dX8_note_39 : decode cX8_note 39 = .ok (.bipush (-2), 2) := by decide +kernel
theorem dX8_note_41 : decode cX8_note 41 = .ok (.invokevirtual 68, 3) := by decide +kernel
theorem dX8_note_44 : decode cX8_note 44 = .ok (.ireturn, 1) := by decide +kernel
theorem dX8_note_45 : decode cX8_note 45 = .ok (.aload_n 0, 1) := by decide +kernel
theorem dX8_note_46 : decode cX8_note 46 = .ok (.aload_n 0, 1) := by decide +kernel
theorem dX8_note_47 : decode cX8_note 47 = .ok (.getfield 10, 3) := by decide +kernel
theorem dX8_note_50 : decode cX8_note 50 = .ok (.getfield 211, 3) := by decide +kernel
theorem dX8_note_53 : decode cX8_note 53 = .ok (.iload_n 1, 1) := by decide +kernel
theorem dX8_note_54 : decode cX8_note 54 = .ok (.iload_n 2, 1) := by decide +kernel
theorem dX8_note_55 : decode cX8_note 55 = .ok (.iload_n 3, 1) := by decide +kernel
theorem dX8_note_56 : decode cX8_note 56 = .ok (.iload 4, 2) := by decide +kernel
theorem dX8_note_58 : decode cX8_note 58 = .ok (.invokevirtual 204, 3) := by decide +kernel
theorem dX8_note_61 : decode cX8_note 61 = .ok (.ireturn, 1) := by decide +kernel
theorem dX8_mark_0 : decode cX8_mark 0 = .ok (.aload_n 0, 1) := by decide +kernel
theorem dX8_mark_1 : decode cX8_mark 1 = .ok (.getfield 10, 3) := by decide +kernel
theorem dX8_mark_4 : decode cX8_mark 4 = .ok (.iload_n 1, 1) := by decide +kernel
theorem dX8_mark_5 : decode cX8_mark 5 = .ok (.invokevirtual 91, 3) := by decide +kernel
theorem dX8_mark_8 : decode cX8_mark 8 = .ok (.ifCond .eq 34, 3) := by decide +kernel
theorem dX8_mark_11 : decode cX8_mark 11 = .ok (.iload_n 2, 1) := by decide +kernel
theorem dX8_mark_12 : decode cX8_mark 12 = .ok (.iconst (-1), 1) := by decide +kernel
theorem dX8_mark_13 : decode cX8_mark 13 = .ok (.bipush 8, 2) := by decide +kernel
theorem dX8_mark_15 : decode cX8_mark 15 = .ok (.invokestatic 64, 3) := by decide +kernel
theorem dX8_mark_18 : decode cX8_mark 18 = .ok (.ifCond .eq 24, 3) := by decide +kernel
theorem dX8_mark_21 : decode cX8_mark 21 = .ok (.iload_n 3, 1) := by decide +kernel
theorem dX8_mark_22 : decode cX8_mark 22 = .ok (.iconst 0, 1) := by decide +kernel
theorem dX8_mark_23 : decode cX8_mark 23 = .ok (.bipush 23, 2) := by decide +kernel
theorem dX8_mark_25 : decode cX8_mark 25 = .ok (.invokestatic 64, 3) := by decide +kernel
theorem dX8_mark_28 : decode cX8_mark 28 = .ok (.ifCond .eq 14, 3) := by decide +kernel
theorem dX8_mark_31 : decode cX8_mark 31 = .ok (.iload 4, 2) := by decide +kernel
theorem dX8_mark_33 : decode cX8_mark 33 = .ok (.iconst 0, 1) := by decide +kernel
theorem dX8_mark_34 : decode cX8_mark 34 = .ok (.bipush 9, 2) := by decide +kernel
theorem dX8_mark_36 : decode cX8_mark 36 = .ok (.invokestatic 64, 3) := by decide +kernel
theorem dX8_mark_39 : decode cX8_mark 39 = .ok (.ifCond .ne 10, 3) := by decide +kernel
theorem dX8_mark_42 : decode cX8_mark 42 = .ok (.aload_n 0, 1) := by decide +kernel
theorem dX8_mark_43 : decode cX8_mark 43 = .ok (.bipush (-2), 2) := by decide +kernel
theorem dX8_mark_45 : decode cX8_mark 45 = .ok (.invokevirtual 68, 3) := by decide +kernel
theorem dX8_mark_48 : decode cX8_mark 48 = .ok (.ireturn, 1) := by decide +kernel
theorem dX8_mark_49 : decode cX8_mark 49 = .ok (.aload_n 0, 1) := by decide +kernel
theorem dX8_mark_50 : decode cX8_mark 50 = .ok (.aload_n 0, 1) := by decide +kernel
theorem dX8_mark_51 : decode cX8_mark 51 = .ok (.getfield 10, 3) := by decide +kernel
theorem dX8_mark_54 : decode cX8_mark 54 = .ok (.getfield 214, 3) := by decide +kernel
theorem dX8_mark_57 : decode cX8_mark 57 = .ok (.iload_n 1, 1) := by decide +kernel
theorem dX8_mark_58 : decode cX8_mark 58 = .ok (.iload_n 2, 1) := by decide +kernel
theorem dX8_mark_59 : decode cX8_mark 59 = .ok (.iload_n 3, 1) := by decide +kernel
theorem dX8_mark_60 : decode cX8_mark 60 = .ok (.iload 4, 2) := by decide +kernel
theorem dX8_mark_62 : decode cX8_mark 62 = .ok (.invokevirtual 204, 3) := by decide +kernel
theorem dX8_mark_65 : decode cX8_mark 65 = .ok (.ireturn, 1) := by decide +kernel
theorem dX8_forget_0 : decode cX8_forget 0 = .ok (.iload_n 1, 1) := by decide +kernel
theorem dX8_forget_1 : decode cX8_forget 1 = .ok (.tableswitch 60 0 2 #[27, 38, 49], 27) := by decide +kernel
theorem dX8_forget_28 : decode cX8_forget 28 = .ok (.aload_n 0, 1) := by decide +kernel
theorem dX8_forget_29 : decode cX8_forget 29 = .ok (.getfield 10, 3) := by decide +kernel
theorem dX8_forget_32 : decode cX8_forget 32 = .ok (.getfield 200, 3) := by decide +kernel
theorem dX8_forget_35 : decode cX8_forget 35 = .ok (.invokevirtual 217, 3) := by decide +kernel
theorem dX8_forget_38 : decode cX8_forget 38 = .ok (.ireturn, 1) := by decide +kernel
theorem dX8_forget_39 : decode cX8_forget 39 = .ok (.aload_n 0, 1) := by decide +kernel
theorem dX8_forget_40 : decode cX8_forget 40 = .ok (.getfield 10, 3) := by decide +kernel
theorem dX8_forget_43 : decode cX8_forget 43 = .ok (.getfield 211, 3) := by decide +kernel
theorem dX8_forget_46 : decode cX8_forget 46 = .ok (.invokevirtual 217, 3) := by decide +kernel
theorem dX8_forget_49 : decode cX8_forget 49 = .ok (.ireturn, 1) := by decide +kernel
theorem dX8_forget_50 : decode cX8_forget 50 = .ok (.aload_n 0, 1) := by decide +kernel
theorem dX8_forget_51 : decode cX8_forget 51 = .ok (.getfield 10, 3) := by decide +kernel
theorem dX8_forget_54 : decode cX8_forget 54 = .ok (.getfield 214, 3) := by decide +kernel
theorem dX8_forget_57 : decode cX8_forget 57 = .ok (.invokevirtual 217, 3) := by decide +kernel
theorem dX8_forget_60 : decode cX8_forget 60 = .ok (.ireturn, 1) := by decide +kernel
theorem dX8_forget_61 : decode cX8_forget 61 = .ok (.aload_n 0, 1) := by decide +kernel
theorem dX8_forget_62 : decode cX8_forget 62 = .ok (.bipush (-2), 2) := by decide +kernel
theorem dX8_forget_64 : decode cX8_forget 64 = .ok (.invokevirtual 68, 3) := by decide +kernel
theorem dX8_forget_67 : decode cX8_forget 67 = .ok (.ireturn, 1) := by decide +kernel
theorem dX8_is_0 : decode cX8_is 0 = .ok (.iload_n 1, 1) := by decide +kernel
theorem dX8_is_1 : decode cX8_is 1 = .ok (.invokestatic 95, 3) := by decide +kernel
theorem dX8_is_4 : decode cX8_is 4 = .ok (.ifCond .ne 10, 3) := by decide +kernel
theorem dX8_is_7 : decode cX8_is 7 = .ok (.aload_n 0, 1) := by decide +kernel
theorem dX8_is_8 : decode cX8_is 8 = .ok (.bipush (-2), 2) := by decide +kernel
theorem dX8_is_10 : decode cX8_is 10 = .ok (.invokevirtual 68, 3) := by decide +kernel
theorem dX8_is_13 : decode cX8_is 13 = .ok (.ireturn, 1) := by decide +kernel
theorem dX8_is_14 : decode cX8_is 14 = .ok (.aload_n 0, 1) := by decide +kernel
theorem dX8_is_15 : decode cX8_is 15 = .ok (.getfield 10, 3) := by decide +kernel
theorem dX8_is_18 : decode cX8_is 18 = .ok (.getfield 222, 3) := by decide +kernel
theorem dX8_is_21 : decode cX8_is 21 = .ok (.aload_n 0, 1) := by decide +kernel
theorem dX8_is_22 : decode cX8_is 22 = .ok (.getfield 10, 3) := by decide +kernel
theorem dX8_is_25 : decode cX8_is 25 = .ok (.getfield 211, 3) := by decide +kernel
theorem dX8_is_28 : decode cX8_is 28 = .ok (.iload_n 1, 1) := by decide +kernel
theorem dX8_is_29 : decode cX8_is 29 = .ok (.invokevirtual 226, 3) := by decide +kernel
theorem dX8_is_32 : decode cX8_is 32 = .ok (.ireturn, 1) := by decide +kernel
theorem dX8_look_0 : decode cX8_look 0 = .ok (.iload_n 1, 1) := by decide +kernel
theorem dX8_look_1 : decode cX8_look 1 = .ok (.invokestatic 95, 3) := by decide +kernel
theorem dX8_look_4 : decode cX8_look 4 = .ok (.ifCond .ne 10, 3) := by decide +kernel
theorem dX8_look_7 : decode cX8_look 7 = .ok (.aload_n 0, 1) := by decide +kernel
theorem dX8_look_8 : decode cX8_look 8 = .ok (.bipush (-2), 2) := by decide +kernel
theorem dX8_look_10 : decode cX8_look 10 = .ok (.invokevirtual 68, 3) := by decide +kernel
theorem dX8_look_13 : decode cX8_look 13 = .ok (.ireturn, 1) := by decide +kernel
theorem dX8_look_14 : decode cX8_look 14 = .ok (.aload_n 0, 1) := by decide +kernel
theorem dX8_look_15 : decode cX8_look 15 = .ok (.getfield 10, 3) := by decide +kernel
theorem dX8_look_18 : decode cX8_look 18 = .ok (.getfield 222, 3) := by decide +kernel
theorem dX8_look_21 : decode cX8_look 21 = .ok (.aload_n 0, 1) := by decide +kernel
theorem dX8_look_22 : decode cX8_look 22 = .ok (.getfield 10, 3) := by decide +kernel
theorem dX8_look_25 : decode cX8_look 25 = .ok (.getfield 211, 3) := by decide +kernel
theorem dX8_look_28 : decode cX8_look 28 = .ok (.iload_n 1, 1) := by decide +kernel
theorem dX8_look_29 : decode cX8_look 29 = .ok (.invokevirtual 232, 3) := by decide +kernel
theorem dX8_look_32 : decode cX8_look 32 = .ok (.ireturn, 1) := by decide +kernel
theorem dX8_kinds_0 : decode cX8_kinds 0 = .ok (.aload_n 0, 1) := by decide +kernel
theorem dX8_kinds_1 : decode cX8_kinds 1 = .ok (.getfield 10, 3) := by decide +kernel
theorem dX8_kinds_4 : decode cX8_kinds 4 = .ok (.iload_n 1, 1) := by decide +kernel
theorem dX8_kinds_5 : decode cX8_kinds 5 = .ok (.invokevirtual 91, 3) := by decide +kernel
theorem dX8_kinds_8 : decode cX8_kinds 8 = .ok (.ifCond .ne 10, 3) := by decide +kernel
theorem dX8_kinds_11 : decode cX8_kinds 11 = .ok (.aload_n 0, 1) := by decide +kernel
theorem dX8_kinds_12 : decode cX8_kinds 12 = .ok (.bipush (-2), 2) := by decide +kernel
theorem dX8_kinds_14 : decode cX8_kinds 14 = .ok (.invokevirtual 68, 3) := by decide +kernel
theorem dX8_kinds_17 : decode cX8_kinds 17 = .ok (.ireturn, 1) := by decide +kernel
theorem dX8_kinds_18 : decode cX8_kinds 18 = .ok (.aload_n 0, 1) := by decide +kernel
theorem dX8_kinds_19 : decode cX8_kinds 19 = .ok (.getfield 10, 3) := by decide +kernel
theorem dX8_kinds_22 : decode cX8_kinds 22 = .ok (.getfield 235, 3) := by decide +kernel
theorem dX8_kinds_25 : decode cX8_kinds 25 = .ok (.aload_n 0, 1) := by decide +kernel
theorem dX8_kinds_26 : decode cX8_kinds 26 = .ok (.getfield 10, 3) := by decide +kernel
theorem dX8_kinds_29 : decode cX8_kinds 29 = .ok (.getfield 214, 3) := by decide +kernel
theorem dX8_kinds_32 : decode cX8_kinds 32 = .ok (.iload_n 1, 1) := by decide +kernel
theorem dX8_kinds_33 : decode cX8_kinds 33 = .ok (.invokevirtual 239, 3) := by decide +kernel
theorem dX8_kinds_36 : decode cX8_kinds 36 = .ok (.ireturn, 1) := by decide +kernel
theorem dX8_ask_0 : decode cX8_ask 0 = .ok (.aload_n 0, 1) := by decide +kernel
theorem dX8_ask_1 : decode cX8_ask 1 = .ok (.getfield 10, 3) := by decide +kernel
theorem dX8_ask_4 : decode cX8_ask 4 = .ok (.iload_n 1, 1) := by decide +kernel
theorem dX8_ask_5 : decode cX8_ask 5 = .ok (.invokevirtual 91, 3) := by decide +kernel
theorem dX8_ask_8 : decode cX8_ask 8 = .ok (.ifCond .ne 10, 3) := by decide +kernel
theorem dX8_ask_11 : decode cX8_ask 11 = .ok (.aload_n 0, 1) := by decide +kernel
theorem dX8_ask_12 : decode cX8_ask 12 = .ok (.bipush (-2), 2) := by decide +kernel
theorem dX8_ask_14 : decode cX8_ask 14 = .ok (.invokevirtual 68, 3) := by decide +kernel
theorem dX8_ask_17 : decode cX8_ask 17 = .ok (.ireturn, 1) := by decide +kernel
theorem dX8_ask_18 : decode cX8_ask 18 = .ok (.aload_n 0, 1) := by decide +kernel
theorem dX8_ask_19 : decode cX8_ask 19 = .ok (.getfield 10, 3) := by decide +kernel
theorem dX8_ask_22 : decode cX8_ask 22 = .ok (.getfield 235, 3) := by decide +kernel
theorem dX8_ask_25 : decode cX8_ask 25 = .ok (.aload_n 0, 1) := by decide +kernel
theorem dX8_ask_26 : decode cX8_ask 26 = .ok (.getfield 10, 3) := by decide +kernel
theorem dX8_ask_29 : decode cX8_ask 29 = .ok (.getfield 214, 3) := by decide +kernel
theorem dX8_ask_32 : decode cX8_ask 32 = .ok (.iload_n 1, 1) := by decide +kernel
theorem dX8_ask_33 : decode cX8_ask 33 = .ok (.invokevirtual 242, 3) := by decide +kernel
theorem dX8_ask_36 : decode cX8_ask 36 = .ok (.ireturn, 1) := by decide +kernel
theorem dX8_hosts_0 : decode cX8_hosts 0 = .ok (.aload_n 0, 1) := by decide +kernel
theorem dX8_hosts_1 : decode cX8_hosts 1 = .ok (.getfield 10, 3) := by decide +kernel
theorem dX8_hosts_4 : decode cX8_hosts 4 = .ok (.iload_n 1, 1) := by decide +kernel
theorem dX8_hosts_5 : decode cX8_hosts 5 = .ok (.invokevirtual 91, 3) := by decide +kernel
theorem dX8_hosts_8 : decode cX8_hosts 8 = .ok (.ifCond .eq 33, 3) := by decide +kernel
theorem dX8_hosts_11 : decode cX8_hosts 11 = .ok (.aload_n 0, 1) := by decide +kernel
theorem dX8_hosts_12 : decode cX8_hosts 12 = .ok (.getfield 10, 3) := by decide +kernel
theorem dX8_hosts_15 : decode cX8_hosts 15 = .ok (.iload_n 2, 1) := by decide +kernel
theorem dX8_hosts_16 : decode cX8_hosts 16 = .ok (.invokevirtual 91, 3) := by decide +kernel
theorem dX8_hosts_19 : decode cX8_hosts 19 = .ok (.ifCond .eq 22, 3) := by decide +kernel
theorem dX8_hosts_22 : decode cX8_hosts 22 = .ok (.aload_n 0, 1) := by decide +kernel
theorem dX8_hosts_23 : decode cX8_hosts 23 = .ok (.getfield 10, 3) := by decide +kernel
theorem dX8_hosts_26 : decode cX8_hosts 26 = .ok (.iload_n 3, 1) := by decide +kernel
theorem dX8_hosts_27 : decode cX8_hosts 27 = .ok (.invokevirtual 91, 3) := by decide +kernel
theorem dX8_hosts_30 : decode cX8_hosts 30 = .ok (.ifCond .eq 11, 3) := by decide +kernel
theorem dX8_hosts_33 : decode cX8_hosts 33 = .ok (.iload 4, 2) := by decide +kernel
theorem dX8_hosts_35 : decode cX8_hosts 35 = .ok (.invokestatic 95, 3) := by decide +kernel
theorem dX8_hosts_38 : decode cX8_hosts 38 = .ok (.ifCond .ne 10, 3) := by decide +kernel
theorem dX8_hosts_41 : decode cX8_hosts 41 = .ok (.aload_n 0, 1) := by decide +kernel
theorem dX8_hosts_42 : decode cX8_hosts 42 = .ok (.bipush (-2), 2) := by decide +kernel
theorem dX8_hosts_44 : decode cX8_hosts 44 = .ok (.invokevirtual 68, 3) := by decide +kernel
theorem dX8_hosts_47 : decode cX8_hosts 47 = .ok (.ireturn, 1) := by decide +kernel
theorem dX8_hosts_48 : decode cX8_hosts 48 = .ok (.iload_n 1, 1) := by decide +kernel
theorem dX8_hosts_49 : decode cX8_hosts 49 = .ok (.iload_n 2, 1) := by decide +kernel
theorem dX8_hosts_50 : decode cX8_hosts 50 = .ok (.if_icmp .eq 13, 3) := by decide +kernel
theorem dX8_hosts_53 : decode cX8_hosts 53 = .ok (.iload_n 1, 1) := by decide +kernel
theorem dX8_hosts_54 : decode cX8_hosts 54 = .ok (.iload_n 3, 1) := by decide +kernel
theorem dX8_hosts_55 : decode cX8_hosts 55 = .ok (.if_icmp .eq 8, 3) := by decide +kernel
theorem dX8_hosts_58 : decode cX8_hosts 58 = .ok (.iload_n 2, 1) := by decide +kernel
theorem dX8_hosts_59 : decode cX8_hosts 59 = .ok (.iload_n 3, 1) := by decide +kernel
theorem dX8_hosts_60 : decode cX8_hosts 60 = .ok (.if_icmp .ne 10, 3) := by decide +kernel
theorem dX8_hosts_63 : decode cX8_hosts 63 = .ok (.aload_n 0, 1) := by decide +kernel
theorem dX8_hosts_64 : decode cX8_hosts 64 = .ok (.bipush (-2), 2) := by decide +kernel
theorem dX8_hosts_66 : decode cX8_hosts 66 = .ok (.invokevirtual 68, 3) := by decide +kernel
theorem dX8_hosts_69 : decode cX8_hosts 69 = .ok (.ireturn, 1) := by decide +kernel
theorem dX8_hosts_70 : decode cX8_hosts 70 = .ok (.aload_n 0, 1) := by decide +kernel
theorem dX8_hosts_71 : decode cX8_hosts 71 = .ok (.getfield 10, 3) := by decide +kernel
theorem dX8_hosts_74 : decode cX8_hosts 74 = .ok (.getfield 98, 3) := by decide +kernel
theorem dX8_hosts_77 : decode cX8_hosts 77 = .ok (.iload_n 1, 1) := by decide +kernel
theorem dX8_hosts_78 : decode cX8_hosts 78 = .ok (.iload 4, 2) := by decide +kernel
theorem dX8_hosts_80 : decode cX8_hosts 80 = .ok (.invokevirtual 102, 3) := by decide +kernel
theorem dX8_hosts_83 : decode cX8_hosts 83 = .ok (.ifCond .eq 19, 3) := by decide +kernel
theorem dX8_hosts_86 : decode cX8_hosts 86 = .ok (.aload_n 0, 1) := by decide +kernel
theorem dX8_hosts_87 : decode cX8_hosts 87 = .ok (.getfield 10, 3) := by decide +kernel
theorem dX8_hosts_90 : decode cX8_hosts 90 = .ok (.getfield 98, 3) := by decide +kernel
theorem dX8_hosts_93 : decode cX8_hosts 93 = .ok (.iload_n 2, 1) := by decide +kernel
theorem dX8_hosts_94 : decode cX8_hosts 94 = .ok (.iload 4, 2) := by decide +kernel
theorem dX8_hosts_96 : decode cX8_hosts 96 = .ok (.invokevirtual 102, 3) := by decide +kernel
theorem dX8_hosts_99 : decode cX8_hosts 99 = .ok (.ifCond .ne 10, 3) := by decide +kernel
theorem dX8_hosts_102 : decode cX8_hosts 102 = .ok (.aload_n 0, 1) := by decide +kernel
theorem dX8_hosts_103 : decode cX8_hosts 103 = .ok (.bipush (-3), 2) := by decide +kernel
theorem dX8_hosts_105 : decode cX8_hosts 105 = .ok (.invokevirtual 68, 3) := by decide +kernel
theorem dX8_hosts_108 : decode cX8_hosts 108 = .ok (.ireturn, 1) := by decide +kernel
theorem dX8_hosts_109 : decode cX8_hosts 109 = .ok (.aload_n 0, 1) := by decide +kernel
theorem dX8_hosts_110 : decode cX8_hosts 110 = .ok (.getfield 10, 3) := by decide +kernel
theorem dX8_hosts_113 : decode cX8_hosts 113 = .ok (.iload_n 1, 1) := by decide +kernel
theorem dX8_hosts_114 : decode cX8_hosts 114 = .ok (.iload_n 2, 1) := by decide +kernel
theorem dX8_hosts_115 : decode cX8_hosts 115 = .ok (.iload_n 3, 1) := by decide +kernel
theorem dX8_hosts_116 : decode cX8_hosts 116 = .ok (.iload 4, 2) := by decide +kernel
theorem dX8_hosts_118 : decode cX8_hosts 118 = .ok (.invokevirtual 243, 3) := by decide +kernel
theorem dX8_hosts_121 : decode cX8_hosts 121 = .ok (.ireturn, 1) := by decide +kernel
theorem dX8_slips_0 : decode cX8_slips 0 = .ok (.aload_n 0, 1) := by decide +kernel
theorem dX8_slips_1 : decode cX8_slips 1 = .ok (.getfield 10, 3) := by decide +kernel
theorem dX8_slips_4 : decode cX8_slips 4 = .ok (.iload_n 1, 1) := by decide +kernel
theorem dX8_slips_5 : decode cX8_slips 5 = .ok (.invokevirtual 91, 3) := by decide +kernel
theorem dX8_slips_8 : decode cX8_slips 8 = .ok (.ifCond .eq 20, 3) := by decide +kernel
theorem dX8_slips_11 : decode cX8_slips 11 = .ok (.iload_n 2, 1) := by decide +kernel
theorem dX8_slips_12 : decode cX8_slips 12 = .ok (.invokestatic 95, 3) := by decide +kernel
theorem dX8_slips_15 : decode cX8_slips 15 = .ok (.ifCond .eq 13, 3) := by decide +kernel
theorem dX8_slips_18 : decode cX8_slips 18 = .ok (.iload_n 3, 1) := by decide +kernel
theorem dX8_slips_19 : decode cX8_slips 19 = .ok (.iconst 0, 1) := by decide +kernel
theorem dX8_slips_20 : decode cX8_slips 20 = .ok (.bipush 10, 2) := by decide +kernel
theorem dX8_slips_22 : decode cX8_slips 22 = .ok (.invokestatic 64, 3) := by decide +kernel
theorem dX8_slips_25 : decode cX8_slips 25 = .ok (.ifCond .ne 10, 3) := by decide +kernel
theorem dX8_slips_28 : decode cX8_slips 28 = .ok (.aload_n 0, 1) := by decide +kernel
theorem dX8_slips_29 : decode cX8_slips 29 = .ok (.bipush (-2), 2) := by decide +kernel
theorem dX8_slips_31 : decode cX8_slips 31 = .ok (.invokevirtual 68, 3) := by decide +kernel
theorem dX8_slips_34 : decode cX8_slips 34 = .ok (.ireturn, 1) := by decide +kernel
theorem dX8_slips_35 : decode cX8_slips 35 = .ok (.aload_n 0, 1) := by decide +kernel
theorem dX8_slips_36 : decode cX8_slips 36 = .ok (.getfield 10, 3) := by decide +kernel
theorem dX8_slips_39 : decode cX8_slips 39 = .ok (.iload_n 1, 1) := by decide +kernel
theorem dX8_slips_40 : decode cX8_slips 40 = .ok (.iload_n 2, 1) := by decide +kernel
theorem dX8_slips_41 : decode cX8_slips 41 = .ok (.invokevirtual 169, 3) := by decide +kernel
theorem dX8_slips_44 : decode cX8_slips 44 = .ok (.istore 4, 2) := by decide +kernel
theorem dX8_slips_46 : decode cX8_slips 46 = .ok (.lconst 0, 1) := by decide +kernel
theorem dX8_slips_47 : decode cX8_slips 47 = .ok (.lstore 5, 2) := by decide +kernel
theorem dX8_slips_49 : decode cX8_slips 49 = .ok (.lconst 0, 1) := by decide +kernel
theorem dX8_slips_50 : decode cX8_slips 50 = .ok (.lstore 7, 2) := by decide +kernel
theorem dX8_slips_52 : decode cX8_slips 52 = .ok (.iconst 0, 1) := by decide +kernel
theorem dX8_slips_53 : decode cX8_slips 53 = .ok (.istore 9, 2) := by decide +kernel
theorem dX8_slips_55 : decode cX8_slips 55 = .ok (.iload 9, 2) := by decide +kernel
theorem dX8_slips_57 : decode cX8_slips 57 = .ok (.bipush 64, 2) := by decide +kernel
theorem dX8_slips_59 : decode cX8_slips 59 = .ok (.if_icmp .ge 71, 3) := by decide +kernel
theorem dX8_slips_62 : decode cX8_slips 62 = .ok (.iload 9, 2) := by decide +kernel
theorem dX8_slips_64 : decode cX8_slips 64 = .ok (.iload 4, 2) := by decide +kernel
theorem dX8_slips_66 : decode cX8_slips 66 = .ok (.iand, 1) := by decide +kernel
theorem dX8_slips_67 : decode cX8_slips 67 = .ok (.iload 9, 2) := by decide +kernel
theorem dX8_slips_69 : decode cX8_slips 69 = .ok (.if_icmp .ne 55, 3) := by decide +kernel
theorem dX8_slips_72 : decode cX8_slips 72 = .ok (.iload 4, 2) := by decide +kernel
theorem dX8_slips_74 : decode cX8_slips 74 = .ok (.iload 9, 2) := by decide +kernel
theorem dX8_slips_76 : decode cX8_slips 76 = .ok (.iload_n 3, 1) := by decide +kernel
theorem dX8_slips_77 : decode cX8_slips 77 = .ok (.invokestatic 247, 3) := by decide +kernel
theorem dX8_slips_80 : decode cX8_slips 80 = .ok (.lstore 10, 2) := by decide +kernel
theorem dX8_slips_82 : decode cX8_slips 82 = .ok (.lload 7, 2) := by decide +kernel
theorem dX8_slips_84 : decode cX8_slips 84 = .ok (.lload 10, 2) := by decide +kernel
theorem dX8_slips_86 : decode cX8_slips 86 = .ok (.ladd, 1) := by decide +kernel
theorem dX8_slips_87 : decode cX8_slips 87 = .ok (.lstore 7, 2) := by decide +kernel
theorem dX8_slips_89 : decode cX8_slips 89 = .ok (.lload 5, 2) := by decide +kernel
theorem dX8_slips_91 : decode cX8_slips 91 = .ok (.aload_n 0, 1) := by decide +kernel
theorem dX8_slips_92 : decode cX8_slips 92 = .ok (.getfield 10, 3) := by decide +kernel
theorem dX8_slips_95 : decode cX8_slips 95 = .ok (.iload_n 1, 1) := by decide +kernel
theorem dX8_slips_96 : decode cX8_slips 96 = .ok (.iload_n 2, 1) := by decide +kernel
theorem dX8_slips_97 : decode cX8_slips 97 = .ok (.iload 9, 2) := by decide +kernel
theorem dX8_slips_99 : decode cX8_slips 99 = .ok (.aload_n 0, 1) := by decide +kernel
theorem dX8_slips_100 : decode cX8_slips 100 = .ok (.getfield 10, 3) := by decide +kernel
theorem dX8_slips_103 : decode cX8_slips 103 = .ok (.getfield 98, 3) := by decide +kernel
theorem dX8_slips_106 : decode cX8_slips 106 = .ok (.getfield 108, 3) := by decide +kernel
theorem dX8_slips_109 : decode cX8_slips 109 = .ok (.invokevirtual 180, 3) := by decide +kernel
theorem dX8_slips_112 : decode cX8_slips 112 = .ok (.ifCond .eq 8, 3) := by decide +kernel
theorem dX8_slips_115 : decode cX8_slips 115 = .ok (.lload 10, 2) := by decide +kernel
theorem dX8_slips_117 : decode cX8_slips 117 = .ok (.goto 4, 3) := by decide +kernel
theorem dX8_slips_120 : decode cX8_slips 120 = .ok (.lconst 0, 1) := by decide +kernel
theorem dX8_slips_121 : decode cX8_slips 121 = .ok (.ladd, 1) := by decide +kernel
theorem dX8_slips_122 : decode cX8_slips 122 = .ok (.lstore 5, 2) := by decide +kernel
theorem dX8_slips_124 : decode cX8_slips 124 = .ok (.iinc 9 1, 3) := by decide +kernel
theorem dX8_slips_127 : decode cX8_slips 127 = .ok (.goto (-72), 3) := by decide +kernel
theorem dX8_slips_130 : decode cX8_slips 130 = .ok (.aload_n 0, 1) := by decide +kernel
theorem dX8_slips_131 : decode cX8_slips 131 = .ok (.lload 5, 2) := by decide +kernel
theorem dX8_slips_133 : decode cX8_slips 133 = .ok (.lload 7, 2) := by decide +kernel
theorem dX8_slips_135 : decode cX8_slips 135 = .ok (.invokevirtual 251, 3) := by decide +kernel
theorem dX8_slips_138 : decode cX8_slips 138 = .ok (.iconst 1, 1) := by decide +kernel
theorem dX8_slips_139 : decode cX8_slips 139 = .ok (.ireturn, 1) := by decide +kernel
theorem dX8_evenings_0 : decode cX8_evenings 0 = .ok (.iload_n 1, 1) := by decide +kernel
theorem dX8_evenings_1 : decode cX8_evenings 1 = .ok (.iconst 0, 1) := by decide +kernel
theorem dX8_evenings_2 : decode cX8_evenings 2 = .ok (.ldc 255, 2) := by decide +kernel
theorem dX8_evenings_4 : decode cX8_evenings 4 = .ok (.invokestatic 64, 3) := by decide +kernel
theorem dX8_evenings_7 : decode cX8_evenings 7 = .ok (.ifCond .eq 13, 3) := by decide +kernel
theorem dX8_evenings_10 : decode cX8_evenings 10 = .ok (.iload_n 2, 1) := by decide +kernel
theorem dX8_evenings_11 : decode cX8_evenings 11 = .ok (.iconst 0, 1) := by decide +kernel
theorem dX8_evenings_12 : decode cX8_evenings 12 = .ok (.bipush 60, 2) := by decide +kernel
theorem dX8_evenings_14 : decode cX8_evenings 14 = .ok (.invokestatic 64, 3) := by decide +kernel
theorem dX8_evenings_17 : decode cX8_evenings 17 = .ok (.ifCond .ne 10, 3) := by decide +kernel
theorem dX8_evenings_20 : decode cX8_evenings 20 = .ok (.aload_n 0, 1) := by decide +kernel
theorem dX8_evenings_21 : decode cX8_evenings 21 = .ok (.bipush (-2), 2) := by decide +kernel
theorem dX8_evenings_23 : decode cX8_evenings 23 = .ok (.invokevirtual 68, 3) := by decide +kernel
theorem dX8_evenings_26 : decode cX8_evenings 26 = .ok (.ireturn, 1) := by decide +kernel
theorem dX8_evenings_27 : decode cX8_evenings 27 = .ok (.aload_n 0, 1) := by decide +kernel
theorem dX8_evenings_28 : decode cX8_evenings 28 = .ok (.getfield 16, 3) := by decide +kernel
theorem dX8_evenings_31 : decode cX8_evenings 31 = .ok (.aload_n 0, 1) := by decide +kernel
theorem dX8_evenings_32 : decode cX8_evenings 32 = .ok (.getfield 10, 3) := by decide +kernel
theorem dX8_evenings_35 : decode cX8_evenings 35 = .ok (.invokevirtual 256, 3) := by decide +kernel
theorem dX8_evenings_38 : decode cX8_evenings 38 = .ok (.iload_n 1, 1) := by decide +kernel
theorem dX8_evenings_39 : decode cX8_evenings 39 = .ok (.i2l, 1) := by decide +kernel
theorem dX8_evenings_40 : decode cX8_evenings 40 = .ok (.lstore_n 3, 1) := by decide +kernel
theorem dX8_evenings_41 : decode cX8_evenings 41 = .ok (.iconst 0, 1) := by decide +kernel
theorem dX8_evenings_42 : decode cX8_evenings 42 = .ok (.istore 5, 2) := by decide +kernel
theorem dX8_evenings_44 : decode cX8_evenings 44 = .ok (.iload 5, 2) := by decide +kernel
theorem dX8_evenings_46 : decode cX8_evenings 46 = .ok (.iload_n 2, 1) := by decide +kernel
theorem dX8_evenings_47 : decode cX8_evenings 47 = .ok (.if_icmp .ge 79, 3) := by decide +kernel
theorem dX8_evenings_50 : decode cX8_evenings 50 = .ok (.lload_n 3, 1) := by decide +kernel
theorem dX8_evenings_51 : decode cX8_evenings 51 = .ok (.ldc2_w 259, 3) := by decide +kernel
theorem dX8_evenings_54 : decode cX8_evenings 54 = .ok (.lmul, 1) := by decide +kernel
theorem dX8_evenings_55 : decode cX8_evenings 55 = .ok (.ldc2_w 261, 3) := by decide +kernel
theorem dX8_evenings_58 : decode cX8_evenings 58 = .ok (.ladd, 1) := by decide +kernel
theorem dX8_evenings_59 : decode cX8_evenings 59 = .ok (.ldc2_w 263, 3) := by decide +kernel
theorem dX8_evenings_62 : decode cX8_evenings 62 = .ok (.lrem, 1) := by decide +kernel
theorem dX8_evenings_63 : decode cX8_evenings 63 = .ok (.lstore_n 3, 1) := by decide +kernel
theorem dX8_evenings_64 : decode cX8_evenings 64 = .ok (.lload_n 3, 1) := by decide +kernel
theorem dX8_evenings_65 : decode cX8_evenings 65 = .ok (.ldc2_w 265, 3) := by decide +kernel
theorem dX8_evenings_68 : decode cX8_evenings 68 = .ok (.ldiv, 1) := by decide +kernel
theorem dX8_evenings_69 : decode cX8_evenings 69 = .ok (.ldc2_w 267, 3) := by decide +kernel
theorem dX8_evenings_72 : decode cX8_evenings 72 = .ok (.lrem, 1) := by decide +kernel
theorem dX8_evenings_73 : decode cX8_evenings 73 = .ok (.l2i, 1) := by decide +kernel
theorem dX8_evenings_74 : decode cX8_evenings 74 = .ok (.istore 6, 2) := by decide +kernel
theorem dX8_evenings_76 : decode cX8_evenings 76 = .ok (.aload_n 0, 1) := by decide +kernel
theorem dX8_evenings_77 : decode cX8_evenings 77 = .ok (.getfield 16, 3) := by decide +kernel
theorem dX8_evenings_80 : decode cX8_evenings 80 = .ok (.iload 6, 2) := by decide +kernel
theorem dX8_evenings_82 : decode cX8_evenings 82 = .ok (.invokevirtual 91, 3) := by decide +kernel
theorem dX8_evenings_85 : decode cX8_evenings 85 = .ok (.ifCond .eq 25, 3) := by decide +kernel
theorem dX8_evenings_88 : decode cX8_evenings 88 = .ok (.aload_n 0, 1) := by decide +kernel
theorem dX8_evenings_89 : decode cX8_evenings 89 = .ok (.getfield 16, 3) := by decide +kernel
theorem dX8_evenings_92 : decode cX8_evenings 92 = .ok (.iload 6, 2) := by decide +kernel
theorem dX8_evenings_94 : decode cX8_evenings 94 = .ok (.lload_n 3, 1) := by decide +kernel
theorem dX8_evenings_95 : decode cX8_evenings 95 = .ok (.ldc2_w 269, 3) := by decide +kernel
theorem dX8_evenings_98 : decode cX8_evenings 98 = .ok (.ldiv, 1) := by decide +kernel
theorem dX8_evenings_99 : decode cX8_evenings 99 = .ok (.ldc2_w 271, 3) := by decide +kernel
theorem dX8_evenings_102 : decode cX8_evenings 102 = .ok (.lrem, 1) := by decide +kernel
theorem dX8_evenings_103 : decode cX8_evenings 103 = .ok (.l2i, 1) := by decide +kernel
theorem dX8_evenings_104 : decode cX8_evenings 104 = .ok (.invokevirtual 114, 3) := by decide +kernel
theorem dX8_evenings_107 : decode cX8_evenings 107 = .ok (.goto 13, 3) := by decide +kernel
theorem dX8_evenings_110 : decode cX8_evenings 110 = .ok (.aload_n 0, 1) := by decide +kernel
theorem dX8_evenings_111 : decode cX8_evenings 111 = .ok (.getfield 16, 3) := by decide +kernel
theorem dX8_evenings_114 : decode cX8_evenings 114 = .ok (.getfield 98, 3) := by decide +kernel
theorem dX8_evenings_117 : decode cX8_evenings 117 = .ok (.invokevirtual 128, 3) := by decide +kernel
theorem dX8_evenings_120 : decode cX8_evenings 120 = .ok (.iinc 5 1, 3) := by decide +kernel
theorem dX8_evenings_123 : decode cX8_evenings 123 = .ok (.goto (-79), 3) := by decide +kernel
theorem dX8_evenings_126 : decode cX8_evenings 126 = .ok (.aload_n 0, 1) := by decide +kernel
theorem dX8_evenings_127 : decode cX8_evenings 127 = .ok (.getfield 16, 3) := by decide +kernel
theorem dX8_evenings_130 : decode cX8_evenings 130 = .ok (.getfield 98, 3) := by decide +kernel
theorem dX8_evenings_133 : decode cX8_evenings 133 = .ok (.invokevirtual 134, 3) := by decide +kernel
theorem dX8_evenings_136 : decode cX8_evenings 136 = .ok (.ireturn, 1) := by decide +kernel
theorem dX8_part_0 : decode cX8_part 0 = .ok (.iload_n 1, 1) := by decide +kernel
theorem dX8_part_1 : decode cX8_part 1 = .ok (.lookupswitch 37 #[(0, 27), (1, 32)], 27) := by decide +kernel
theorem dX8_part_28 : decode cX8_part 28 = .ok (.aload_n 0, 1) := by decide +kernel
theorem dX8_part_29 : decode cX8_part 29 = .ok (.getfield 41, 3) := by decide +kernel
theorem dX8_part_32 : decode cX8_part 32 = .ok (.lreturn, 1) := by decide +kernel
theorem dX8_part_33 : decode cX8_part 33 = .ok (.aload_n 0, 1) := by decide +kernel
theorem dX8_part_34 : decode cX8_part 34 = .ok (.getfield 45, 3) := by decide +kernel
theorem dX8_part_37 : decode cX8_part 37 = .ok (.lreturn, 1) := by decide +kernel
theorem dX8_part_38 : decode cX8_part 38 = .ok (.aload_n 0, 1) := by decide +kernel
theorem dX8_part_39 : decode cX8_part 39 = .ok (.bipush (-2), 2) := by decide +kernel
theorem dX8_part_41 : decode cX8_part 41 = .ok (.invokevirtual 68, 3) := by decide +kernel
theorem dX8_part_44 : decode cX8_part 44 = .ok (.i2l, 1) := by decide +kernel
theorem dX8_part_45 : decode cX8_part 45 = .ok (.lreturn, 1) := by decide +kernel
theorem dX8_image_0 : decode cX8_image 0 = .ok (.iload_n 1, 1) := by decide +kernel
theorem dX8_image_1 : decode cX8_image 1 = .ok (.iconst 0, 1) := by decide +kernel
theorem dX8_image_2 : decode cX8_image 2 = .ok (.iconst 1, 1) := by decide +kernel
theorem dX8_image_3 : decode cX8_image 3 = .ok (.invokestatic 64, 3) := by decide +kernel
theorem dX8_image_6 : decode cX8_image 6 = .ok (.ifCond .ne 10, 3) := by decide +kernel
theorem dX8_image_9 : decode cX8_image 9 = .ok (.aload_n 0, 1) := by decide +kernel
theorem dX8_image_10 : decode cX8_image 10 = .ok (.bipush (-2), 2) := by decide +kernel
theorem dX8_image_12 : decode cX8_image 12 = .ok (.invokevirtual 68, 3) := by decide +kernel
theorem dX8_image_15 : decode cX8_image 15 = .ok (.ireturn, 1) := by decide +kernel
theorem dX8_image_16 : decode cX8_image 16 = .ok (.aload_n 0, 1) := by decide +kernel
theorem dX8_image_17 : decode cX8_image 17 = .ok (.getfield 19, 3) := by decide +kernel
theorem dX8_image_20 : decode cX8_image 20 = .ok (.iload_n 1, 1) := by decide +kernel
theorem dX8_image_21 : decode cX8_image 21 = .ok (.aaload, 1) := by decide +kernel
theorem dX8_image_22 : decode cX8_image 22 = .ok (.aload_n 0, 1) := by decide +kernel
theorem dX8_image_23 : decode cX8_image 23 = .ok (.getfield 10, 3) := by decide +kernel
theorem dX8_image_26 : decode cX8_image 26 = .ok (.invokevirtual 87, 3) := by decide +kernel
theorem dX8_image_29 : decode cX8_image 29 = .ok (.aload_n 0, 1) := by decide +kernel
theorem dX8_image_30 : decode cX8_image 30 = .ok (.getfield 23, 3) := by decide +kernel
theorem dX8_image_33 : decode cX8_image 33 = .ok (.iload_n 1, 1) := by decide +kernel
theorem dX8_image_34 : decode cX8_image 34 = .ok (.iconst 1, 1) := by decide +kernel
theorem dX8_image_35 : decode cX8_image 35 = .ok (.bastore, 1) := by decide +kernel
theorem dX8_image_36 : decode cX8_image 36 = .ok (.iconst 1, 1) := by decide +kernel
theorem dX8_image_37 : decode cX8_image 37 = .ok (.ireturn, 1) := by decide +kernel
theorem dX8_from_0 : decode cX8_from 0 = .ok (.iload_n 1, 1) := by decide +kernel
theorem dX8_from_1 : decode cX8_from 1 = .ok (.iconst 0, 1) := by decide +kernel
theorem dX8_from_2 : decode cX8_from 2 = .ok (.iconst 1, 1) := by decide +kernel
theorem dX8_from_3 : decode cX8_from 3 = .ok (.invokestatic 64, 3) := by decide +kernel
theorem dX8_from_6 : decode cX8_from 6 = .ok (.ifCond .ne 10, 3) := by decide +kernel
theorem dX8_from_9 : decode cX8_from 9 = .ok (.aload_n 0, 1) := by decide +kernel
theorem dX8_from_10 : decode cX8_from 10 = .ok (.bipush (-2), 2) := by decide +kernel
theorem dX8_from_12 : decode cX8_from 12 = .ok (.invokevirtual 68, 3) := by decide +kernel
theorem dX8_from_15 : decode cX8_from 15 = .ok (.ireturn, 1) := by decide +kernel
theorem dX8_from_16 : decode cX8_from 16 = .ok (.aload_n 0, 1) := by decide +kernel
theorem dX8_from_17 : decode cX8_from 17 = .ok (.getfield 23, 3) := by decide +kernel
theorem dX8_from_20 : decode cX8_from 20 = .ok (.iload_n 1, 1) := by decide +kernel
theorem dX8_from_21 : decode cX8_from 21 = .ok (.baload, 1) := by decide +kernel
theorem dX8_from_22 : decode cX8_from 22 = .ok (.ifCond .ne 10, 3) := by decide +kernel
theorem dX8_from_25 : decode cX8_from 25 = .ok (.aload_n 0, 1) := by decide +kernel
theorem dX8_from_26 : decode cX8_from 26 = .ok (.bipush (-3), 2) := by decide +kernel
theorem dX8_from_28 : decode cX8_from 28 = .ok (.invokevirtual 68, 3) := by decide +kernel
theorem dX8_from_31 : decode cX8_from 31 = .ok (.ireturn, 1) := by decide +kernel
theorem dX8_from_32 : decode cX8_from 32 = .ok (.aload_n 0, 1) := by decide +kernel
theorem dX8_from_33 : decode cX8_from 33 = .ok (.getfield 10, 3) := by decide +kernel
theorem dX8_from_36 : decode cX8_from 36 = .ok (.aload_n 0, 1) := by decide +kernel
theorem dX8_from_37 : decode cX8_from 37 = .ok (.getfield 19, 3) := by decide +kernel
theorem dX8_from_40 : decode cX8_from 40 = .ok (.iload_n 1, 1) := by decide +kernel
theorem dX8_from_41 : decode cX8_from 41 = .ok (.aaload, 1) := by decide +kernel
theorem dX8_from_42 : decode cX8_from 42 = .ok (.invokevirtual 87, 3) := by decide +kernel
theorem dX8_from_45 : decode cX8_from 45 = .ok (.iconst 1, 1) := by decide +kernel
theorem dX8_from_46 : decode cX8_from 46 = .ok (.ireturn, 1) := by decide +kernel
theorem dX8_status_0 : decode cX8_status 0 = .ok (.iload_n 1, 1) := by decide +kernel
theorem dX8_status_1 : decode cX8_status 1 = .ok (.tableswitch 42 0 2 #[27, 32, 37], 27) := by decide +kernel
theorem dX8_status_28 : decode cX8_status 28 = .ok (.aload_n 0, 1) := by decide +kernel
theorem dX8_status_29 : decode cX8_status 29 = .ok (.getfield 48, 3) := by decide +kernel
theorem dX8_status_32 : decode cX8_status 32 = .ok (.ireturn, 1) := by decide +kernel
theorem dX8_status_33 : decode cX8_status 33 = .ok (.aload_n 0, 1) := by decide +kernel
theorem dX8_status_34 : decode cX8_status 34 = .ok (.getfield 52, 3) := by decide +kernel
theorem dX8_status_37 : decode cX8_status 37 = .ok (.ireturn, 1) := by decide +kernel
theorem dX8_status_38 : decode cX8_status 38 = .ok (.aload_n 0, 1) := by decide +kernel
theorem dX8_status_39 : decode cX8_status 39 = .ok (.getfield 55, 3) := by decide +kernel
theorem dX8_status_42 : decode cX8_status 42 = .ok (.ireturn, 1) := by decide +kernel
theorem dX8_status_43 : decode cX8_status 43 = .ok (.aload_n 0, 1) := by decide +kernel
theorem dX8_status_44 : decode cX8_status 44 = .ok (.bipush (-2), 2) := by decide +kernel
theorem dX8_status_46 : decode cX8_status 46 = .ok (.invokevirtual 68, 3) := by decide +kernel
theorem dX8_status_49 : decode cX8_status 49 = .ok (.pop, 1) := by decide +kernel
theorem dX8_status_50 : decode cX8_status 50 = .ok (.iconst (-1), 1) := by decide +kernel
theorem dX8_status_51 : decode cX8_status 51 = .ok (.ireturn, 1) := by decide +kernel
theorem dX8_count_0 : decode cX8_count 0 = .ok (.iload_n 1, 1) := by decide +kernel
theorem dX8_count_1 : decode cX8_count 1 = .ok (.iconst 0, 1) := by decide +kernel
theorem dX8_count_2 : decode cX8_count 2 = .ok (.bipush 9, 2) := by decide +kernel
theorem dX8_count_4 : decode cX8_count 4 = .ok (.invokestatic 64, 3) := by decide +kernel
theorem dX8_count_7 : decode cX8_count 7 = .ok (.ifCond .eq 11, 3) := by decide +kernel
theorem dX8_count_10 : decode cX8_count 10 = .ok (.aload_n 0, 1) := by decide +kernel
theorem dX8_count_11 : decode cX8_count 11 = .ok (.iload_n 1, 1) := by decide +kernel
theorem dX8_count_12 : decode cX8_count 12 = .ok (.invokevirtual 273, 3) := by decide +kernel
theorem dX8_count_15 : decode cX8_count 15 = .ok (.goto 9, 3) := by decide +kernel
theorem dX8_count_18 : decode cX8_count 18 = .ok (.aload_n 0, 1) := by decide +kernel
theorem dX8_count_19 : decode cX8_count 19 = .ok (.bipush (-2), 2) := by decide +kernel
theorem dX8_count_21 : decode cX8_count 21 = .ok (.invokevirtual 68, 3) := by decide +kernel
theorem dX8_count_24 : decode cX8_count 24 = .ok (.ireturn, 1) := by decide +kernel
theorem dX8_digest_0 : decode cX8_digest 0 = .ok (.ldc2_w 276, 3) := by decide +kernel
theorem dX8_digest_3 : decode cX8_digest 3 = .ok (.lstore_n 1, 1) := by decide +kernel
theorem dX8_digest_4 : decode cX8_digest 4 = .ok (.iconst 0, 1) := by decide +kernel
theorem dX8_digest_5 : decode cX8_digest 5 = .ok (.istore_n 3, 1) := by decide +kernel
theorem dX8_digest_6 : decode cX8_digest 6 = .ok (.iload_n 3, 1) := by decide +kernel
theorem dX8_digest_7 : decode cX8_digest 7 = .ok (.bipush 9, 2) := by decide +kernel
theorem dX8_digest_9 : decode cX8_digest 9 = .ok (.if_icmp .gt 22, 3) := by decide +kernel
theorem dX8_digest_12 : decode cX8_digest 12 = .ok (.ldc2_w 278, 3) := by decide +kernel
theorem dX8_digest_15 : decode cX8_digest 15 = .ok (.lload_n 1, 1) := by decide +kernel
theorem dX8_digest_16 : decode cX8_digest 16 = .ok (.lmul, 1) := by decide +kernel
theorem dX8_digest_17 : decode cX8_digest 17 = .ok (.aload_n 0, 1) := by decide +kernel
theorem dX8_digest_18 : decode cX8_digest 18 = .ok (.iload_n 3, 1) := by decide +kernel
theorem dX8_digest_19 : decode cX8_digest 19 = .ok (.invokevirtual 273, 3) := by decide +kernel
theorem dX8_digest_22 : decode cX8_digest 22 = .ok (.i2l, 1) := by decide +kernel
theorem dX8_digest_23 : decode cX8_digest 23 = .ok (.ladd, 1) := by decide +kernel
theorem dX8_digest_24 : decode cX8_digest 24 = .ok (.lstore_n 1, 1) := by decide +kernel
theorem dX8_digest_25 : decode cX8_digest 25 = .ok (.iinc 3 1, 3) := by decide +kernel
theorem dX8_digest_28 : decode cX8_digest 28 = .ok (.goto (-22), 3) := by decide +kernel
theorem dX8_digest_31 : decode cX8_digest 31 = .ok (.aload_n 0, 1) := by decide +kernel
theorem dX8_digest_32 : decode cX8_digest 32 = .ok (.getfield 10, 3) := by decide +kernel
theorem dX8_digest_35 : decode cX8_digest 35 = .ok (.lload_n 1, 1) := by decide +kernel
theorem dX8_digest_36 : decode cX8_digest 36 = .ok (.invokevirtual 280, 3) := by decide +kernel
theorem dX8_digest_39 : decode cX8_digest 39 = .ok (.lstore_n 1, 1) := by decide +kernel
theorem dX8_digest_40 : decode cX8_digest 40 = .ok (.ldc2_w 278, 3) := by decide +kernel
theorem dX8_digest_43 : decode cX8_digest 43 = .ok (.lload_n 1, 1) := by decide +kernel
theorem dX8_digest_44 : decode cX8_digest 44 = .ok (.lmul, 1) := by decide +kernel
theorem dX8_digest_45 : decode cX8_digest 45 = .ok (.aload_n 0, 1) := by decide +kernel
theorem dX8_digest_46 : decode cX8_digest 46 = .ok (.getfield 41, 3) := by decide +kernel
theorem dX8_digest_49 : decode cX8_digest 49 = .ok (.ladd, 1) := by decide +kernel
theorem dX8_digest_50 : decode cX8_digest 50 = .ok (.lstore_n 1, 1) := by decide +kernel
theorem dX8_digest_51 : decode cX8_digest 51 = .ok (.ldc2_w 278, 3) := by decide +kernel
theorem dX8_digest_54 : decode cX8_digest 54 = .ok (.lload_n 1, 1) := by decide +kernel
theorem dX8_digest_55 : decode cX8_digest 55 = .ok (.lmul, 1) := by decide +kernel
theorem dX8_digest_56 : decode cX8_digest 56 = .ok (.aload_n 0, 1) := by decide +kernel
theorem dX8_digest_57 : decode cX8_digest 57 = .ok (.getfield 45, 3) := by decide +kernel
theorem dX8_digest_60 : decode cX8_digest 60 = .ok (.ladd, 1) := by decide +kernel
theorem dX8_digest_61 : decode cX8_digest 61 = .ok (.lreturn, 1) := by decide +kernel
theorem dX8_within_0 : decode cX8_within 0 = .ok (.iload_n 1, 1) := by decide +kernel
theorem dX8_within_1 : decode cX8_within 1 = .ok (.iload_n 0, 1) := by decide +kernel
theorem dX8_within_2 : decode cX8_within 2 = .ok (.if_icmp .gt 12, 3) := by decide +kernel
theorem dX8_within_5 : decode cX8_within 5 = .ok (.iload_n 0, 1) := by decide +kernel
theorem dX8_within_6 : decode cX8_within 6 = .ok (.iload_n 2, 1) := by decide +kernel
theorem dX8_within_7 : decode cX8_within 7 = .ok (.if_icmp .gt 7, 3) := by decide +kernel
theorem dX8_within_10 : decode cX8_within 10 = .ok (.iconst 1, 1) := by decide +kernel
theorem dX8_within_11 : decode cX8_within 11 = .ok (.goto 4, 3) := by decide +kernel
theorem dX8_within_14 : decode cX8_within 14 = .ok (.iconst 0, 1) := by decide +kernel
theorem dX8_within_15 : decode cX8_within 15 = .ok (.ireturn, 1) := by decide +kernel
theorem dX8_isStep_0 : decode cX8_isStep 0 = .ok (.iload_n 0, 1) := by decide +kernel
theorem dX8_isStep_1 : decode cX8_isStep 1 = .ok (.iconst 0, 1) := by decide +kernel
theorem dX8_isStep_2 : decode cX8_isStep 2 = .ok (.bipush 7, 2) := by decide +kernel
theorem dX8_isStep_4 : decode cX8_isStep 4 = .ok (.invokestatic 64, 3) := by decide +kernel
theorem dX8_isStep_7 : decode cX8_isStep 7 = .ok (.ireturn, 1) := by decide +kernel
theorem dX8_refuse_0 : decode cX8_refuse 0 = .ok (.iload_n 1, 1) := by decide +kernel
theorem dX8_refuse_1 : decode cX8_refuse 1 = .ok (.bipush (-2), 2) := by decide +kernel
theorem dX8_refuse_3 : decode cX8_refuse 3 = .ok (.if_icmp .ne 16, 3) := by decide +kernel
theorem dX8_refuse_6 : decode cX8_refuse 6 = .ok (.aload_n 0, 1) := by decide +kernel
theorem dX8_refuse_7 : decode cX8_refuse 7 = .ok (.dup, 1) := by decide +kernel
theorem dX8_refuse_8 : decode cX8_refuse 8 = .ok (.getfield 48, 3) := by decide +kernel
theorem dX8_refuse_11 : decode cX8_refuse 11 = .ok (.iconst 1, 1) := by decide +kernel
theorem dX8_refuse_12 : decode cX8_refuse 12 = .ok (.iadd, 1) := by decide +kernel
theorem dX8_refuse_13 : decode cX8_refuse 13 = .ok (.putfield 48, 3) := by decide +kernel
theorem dX8_refuse_16 : decode cX8_refuse 16 = .ok (.goto 32, 3) := by decide +kernel
theorem dX8_refuse_19 : decode cX8_refuse 19 = .ok (.iload_n 1, 1) := by decide +kernel
theorem dX8_refuse_20 : decode cX8_refuse 20 = .ok (.bipush (-3), 2) := by decide +kernel
theorem dX8_refuse_22 : decode cX8_refuse 22 = .ok (.if_icmp .ne 16, 3) := by decide +kernel
theorem dX8_refuse_25 : decode cX8_refuse 25 = .ok (.aload_n 0, 1) := by decide +kernel
theorem dX8_refuse_26 : decode cX8_refuse 26 = .ok (.dup, 1) := by decide +kernel
theorem dX8_refuse_27 : decode cX8_refuse 27 = .ok (.getfield 52, 3) := by decide +kernel
theorem dX8_refuse_30 : decode cX8_refuse 30 = .ok (.iconst 1, 1) := by decide +kernel
theorem dX8_refuse_31 : decode cX8_refuse 31 = .ok (.iadd, 1) := by decide +kernel
theorem dX8_refuse_32 : decode cX8_refuse 32 = .ok (.putfield 52, 3) := by decide +kernel
theorem dX8_refuse_35 : decode cX8_refuse 35 = .ok (.goto 13, 3) := by decide +kernel
theorem dX8_refuse_38 : decode cX8_refuse 38 = .ok (.aload_n 0, 1) := by decide +kernel
theorem dX8_refuse_39 : decode cX8_refuse 39 = .ok (.dup, 1) := by decide +kernel
theorem dX8_refuse_40 : decode cX8_refuse 40 = .ok (.getfield 55, 3) := by decide +kernel
theorem dX8_refuse_43 : decode cX8_refuse 43 = .ok (.iconst 1, 1) := by decide +kernel
theorem dX8_refuse_44 : decode cX8_refuse 44 = .ok (.iadd, 1) := by decide +kernel
theorem dX8_refuse_45 : decode cX8_refuse 45 = .ok (.putfield 55, 3) := by decide +kernel
theorem dX8_refuse_48 : decode cX8_refuse 48 = .ok (.iload_n 1, 1) := by decide +kernel
theorem dX8_refuse_49 : decode cX8_refuse 49 = .ok (.ireturn, 1) := by decide +kernel
theorem dX8_refusePlace_0 : decode cX8_refusePlace 0 = .ok (.aload_n 0, 1) := by decide +kernel
theorem dX8_refusePlace_1 : decode cX8_refusePlace 1 = .ok (.bipush (-2), 2) := by decide +kernel
theorem dX8_refusePlace_3 : decode cX8_refusePlace 3 = .ok (.invokevirtual 68, 3) := by decide +kernel
theorem dX8_refusePlace_6 : decode cX8_refusePlace 6 = .ok (.pop, 1) := by decide +kernel
theorem dX8_refusePlace_7 : decode cX8_refusePlace 7 = .ok (.bipush (-10), 2) := by decide +kernel
theorem dX8_refusePlace_9 : decode cX8_refusePlace 9 = .ok (.ireturn, 1) := by decide +kernel
theorem dX8_add_0 : decode cX8_add 0 = .ok (.aload_n 1, 1) := by decide +kernel
theorem dX8_add_1 : decode cX8_add 1 = .ok (.getfield 284, 3) := by decide +kernel
theorem dX8_add_4 : decode cX8_add 4 = .ok (.bipush 6, 2) := by decide +kernel
theorem dX8_add_6 : decode cX8_add 6 = .ok (.if_icmp .lt 10, 3) := by decide +kernel
theorem dX8_add_9 : decode cX8_add 9 = .ok (.aload_n 0, 1) := by decide +kernel
theorem dX8_add_10 : decode cX8_add 10 = .ok (.bipush (-4), 2) := by decide +kernel
theorem dX8_add_12 : decode cX8_add 12 = .ok (.invokevirtual 68, 3) := by decide +kernel
theorem dX8_add_15 : decode cX8_add 15 = .ok (.ireturn, 1) := by decide +kernel
theorem dX8_add_16 : decode cX8_add 16 = .ok (.aload_n 1, 1) := by decide +kernel
theorem dX8_add_17 : decode cX8_add 17 = .ok (.iload_n 2, 1) := by decide +kernel
theorem dX8_add_18 : decode cX8_add 18 = .ok (.iload_n 3, 1) := by decide +kernel
theorem dX8_add_19 : decode cX8_add 19 = .ok (.iload 4, 2) := by decide +kernel
theorem dX8_add_21 : decode cX8_add 21 = .ok (.iload 5, 2) := by decide +kernel
theorem dX8_add_23 : decode cX8_add 23 = .ok (.invokevirtual 285, 3) := by decide +kernel
theorem dX8_add_26 : decode cX8_add 26 = .ok (.aload_n 1, 1) := by decide +kernel
theorem dX8_add_27 : decode cX8_add 27 = .ok (.getfield 284, 3) := by decide +kernel
theorem dX8_add_30 : decode cX8_add 30 = .ok (.ireturn, 1) := by decide +kernel
theorem dX8_counted_0 : decode cX8_counted 0 = .ok (.iload_n 1, 1) := by decide +kernel
theorem dX8_counted_1 : decode cX8_counted 1 = .ok (.tableswitch 147 0 8 #[51, 59, 70, 81, 95, 106, 117, 128, 139], 51) := by decide +kernel
theorem dX8_counted_52 : decode cX8_counted 52 = .ok (.aload_n 0, 1) := by decide +kernel
theorem dX8_counted_53 : decode cX8_counted 53 = .ok (.getfield 10, 3) := by decide +kernel
theorem dX8_counted_56 : decode cX8_counted 56 = .ok (.getfield 58, 3) := by decide +kernel
theorem dX8_counted_59 : decode cX8_counted 59 = .ok (.ireturn, 1) := by decide +kernel
theorem dX8_counted_60 : decode cX8_counted 60 = .ok (.aload_n 0, 1) := by decide +kernel
theorem dX8_counted_61 : decode cX8_counted 61 = .ok (.getfield 10, 3) := by decide +kernel
theorem dX8_counted_64 : decode cX8_counted 64 = .ok (.getfield 98, 3) := by decide +kernel
theorem dX8_counted_67 : decode cX8_counted 67 = .ok (.getfield 108, 3) := by decide +kernel
theorem dX8_counted_70 : decode cX8_counted 70 = .ok (.ireturn, 1) := by decide +kernel
theorem dX8_counted_71 : decode cX8_counted 71 = .ok (.aload_n 0, 1) := by decide +kernel
theorem dX8_counted_72 : decode cX8_counted 72 = .ok (.getfield 10, 3) := by decide +kernel
theorem dX8_counted_75 : decode cX8_counted 75 = .ok (.getfield 98, 3) := by decide +kernel
theorem dX8_counted_78 : decode cX8_counted 78 = .ok (.invokevirtual 134, 3) := by decide +kernel
theorem dX8_counted_81 : decode cX8_counted 81 = .ok (.ireturn, 1) := by decide +kernel
theorem dX8_counted_82 : decode cX8_counted 82 = .ok (.aload_n 0, 1) := by decide +kernel
theorem dX8_counted_83 : decode cX8_counted 83 = .ok (.getfield 10, 3) := by decide +kernel
theorem dX8_counted_86 : decode cX8_counted 86 = .ok (.getfield 98, 3) := by decide +kernel
theorem dX8_counted_89 : decode cX8_counted 89 = .ok (.getfield 137, 3) := by decide +kernel
theorem dX8_counted_92 : decode cX8_counted 92 = .ok (.invokestatic 143, 3) := by decide +kernel
theorem dX8_counted_95 : decode cX8_counted 95 = .ok (.ireturn, 1) := by decide +kernel
theorem dX8_counted_96 : decode cX8_counted 96 = .ok (.aload_n 0, 1) := by decide +kernel
theorem dX8_counted_97 : decode cX8_counted 97 = .ok (.getfield 10, 3) := by decide +kernel
theorem dX8_counted_100 : decode cX8_counted 100 = .ok (.getfield 98, 3) := by decide +kernel
theorem dX8_counted_103 : decode cX8_counted 103 = .ok (.invokevirtual 288, 3) := by decide +kernel
theorem dX8_counted_106 : decode cX8_counted 106 = .ok (.ireturn, 1) := by decide +kernel
theorem dX8_counted_107 : decode cX8_counted 107 = .ok (.aload_n 0, 1) := by decide +kernel
theorem dX8_counted_108 : decode cX8_counted 108 = .ok (.getfield 10, 3) := by decide +kernel
theorem dX8_counted_111 : decode cX8_counted 111 = .ok (.getfield 200, 3) := by decide +kernel
theorem dX8_counted_114 : decode cX8_counted 114 = .ok (.getfield 284, 3) := by decide +kernel
theorem dX8_counted_117 : decode cX8_counted 117 = .ok (.ireturn, 1) := by decide +kernel
theorem dX8_counted_118 : decode cX8_counted 118 = .ok (.aload_n 0, 1) := by decide +kernel
theorem dX8_counted_119 : decode cX8_counted 119 = .ok (.getfield 10, 3) := by decide +kernel
theorem dX8_counted_122 : decode cX8_counted 122 = .ok (.getfield 211, 3) := by decide +kernel
theorem dX8_counted_125 : decode cX8_counted 125 = .ok (.getfield 284, 3) := by decide +kernel
theorem dX8_counted_128 : decode cX8_counted 128 = .ok (.ireturn, 1) := by decide +kernel
theorem dX8_counted_129 : decode cX8_counted 129 = .ok (.aload_n 0, 1) := by decide +kernel
theorem dX8_counted_130 : decode cX8_counted 130 = .ok (.getfield 10, 3) := by decide +kernel
theorem dX8_counted_133 : decode cX8_counted 133 = .ok (.getfield 214, 3) := by decide +kernel
theorem dX8_counted_136 : decode cX8_counted 136 = .ok (.getfield 284, 3) := by decide +kernel
theorem dX8_counted_139 : decode cX8_counted 139 = .ok (.ireturn, 1) := by decide +kernel
theorem dX8_counted_140 : decode cX8_counted 140 = .ok (.aload_n 0, 1) := by decide +kernel
theorem dX8_counted_141 : decode cX8_counted 141 = .ok (.getfield 10, 3) := by decide +kernel
theorem dX8_counted_144 : decode cX8_counted 144 = .ok (.getfield 151, 3) := by decide +kernel
theorem dX8_counted_147 : decode cX8_counted 147 = .ok (.ireturn, 1) := by decide +kernel
theorem dX8_counted_148 : decode cX8_counted 148 = .ok (.aload_n 0, 1) := by decide +kernel
theorem dX8_counted_149 : decode cX8_counted 149 = .ok (.getfield 30, 3) := by decide +kernel
theorem dX8_counted_152 : decode cX8_counted 152 = .ok (.getfield 76, 3) := by decide +kernel
theorem dX8_counted_155 : decode cX8_counted 155 = .ok (.ireturn, 1) := by decide +kernel
theorem dX8_oddsOf_0 : decode cX8_oddsOf 0 = .ok (.lconst 1, 1) := by decide +kernel
theorem dX8_oddsOf_1 : decode cX8_oddsOf 1 = .ok (.lstore_n 3, 1) := by decide +kernel
theorem dX8_oddsOf_2 : decode cX8_oddsOf 2 = .ok (.iconst 0, 1) := by decide +kernel
theorem dX8_oddsOf_3 : decode cX8_oddsOf 3 = .ok (.istore 5, 2) := by decide +kernel
theorem dX8_oddsOf_5 : decode cX8_oddsOf 5 = .ok (.iload 5, 2) := by decide +kernel
theorem dX8_oddsOf_7 : decode cX8_oddsOf 7 = .ok (.bipush 6, 2) := by decide +kernel
theorem dX8_oddsOf_9 : decode cX8_oddsOf 9 = .ok (.if_icmp .ge 42, 3) := by decide +kernel
theorem dX8_oddsOf_12 : decode cX8_oddsOf 12 = .ok (.iload_n 0, 1) := by decide +kernel
theorem dX8_oddsOf_13 : decode cX8_oddsOf 13 = .ok (.iload 5, 2) := by decide +kernel
theorem dX8_oddsOf_15 : decode cX8_oddsOf 15 = .ok (.ishr, 1) := by decide +kernel
theorem dX8_oddsOf_16 : decode cX8_oddsOf 16 = .ok (.iconst 1, 1) := by decide +kernel
theorem dX8_oddsOf_17 : decode cX8_oddsOf 17 = .ok (.iand, 1) := by decide +kernel
theorem dX8_oddsOf_18 : decode cX8_oddsOf 18 = .ok (.iconst 1, 1) := by decide +kernel
theorem dX8_oddsOf_19 : decode cX8_oddsOf 19 = .ok (.if_icmp .ne 26, 3) := by decide +kernel
theorem dX8_oddsOf_22 : decode cX8_oddsOf 22 = .ok (.lload_n 3, 1) := by decide +kernel
theorem dX8_oddsOf_23 : decode cX8_oddsOf 23 = .ok (.iload_n 1, 1) := by decide +kernel
theorem dX8_oddsOf_24 : decode cX8_oddsOf 24 = .ok (.iload 5, 2) := by decide +kernel
theorem dX8_oddsOf_26 : decode cX8_oddsOf 26 = .ok (.ishr, 1) := by decide +kernel
theorem dX8_oddsOf_27 : decode cX8_oddsOf 27 = .ok (.iconst 1, 1) := by decide +kernel
theorem dX8_oddsOf_28 : decode cX8_oddsOf 28 = .ok (.iand, 1) := by decide +kernel
theorem dX8_oddsOf_29 : decode cX8_oddsOf 29 = .ok (.iconst 1, 1) := by decide +kernel
theorem dX8_oddsOf_30 : decode cX8_oddsOf 30 = .ok (.if_icmp .ne 11, 3) := by decide +kernel
theorem dX8_oddsOf_33 : decode cX8_oddsOf 33 = .ok (.bipush 10, 2) := by decide +kernel
theorem dX8_oddsOf_35 : decode cX8_oddsOf 35 = .ok (.iload_n 2, 1) := by decide +kernel
theorem dX8_oddsOf_36 : decode cX8_oddsOf 36 = .ok (.isub, 1) := by decide +kernel
theorem dX8_oddsOf_37 : decode cX8_oddsOf 37 = .ok (.i2l, 1) := by decide +kernel
theorem dX8_oddsOf_38 : decode cX8_oddsOf 38 = .ok (.goto 5, 3) := by decide +kernel
theorem dX8_oddsOf_41 : decode cX8_oddsOf 41 = .ok (.iload_n 2, 1) := by decide +kernel
theorem dX8_oddsOf_42 : decode cX8_oddsOf 42 = .ok (.i2l, 1) := by decide +kernel
theorem dX8_oddsOf_43 : decode cX8_oddsOf 43 = .ok (.lmul, 1) := by decide +kernel
theorem dX8_oddsOf_44 : decode cX8_oddsOf 44 = .ok (.lstore_n 3, 1) := by decide +kernel
theorem dX8_oddsOf_45 : decode cX8_oddsOf 45 = .ok (.iinc 5 1, 3) := by decide +kernel
theorem dX8_oddsOf_48 : decode cX8_oddsOf 48 = .ok (.goto (-43), 3) := by decide +kernel
theorem dX8_oddsOf_51 : decode cX8_oddsOf 51 = .ok (.lload_n 3, 1) := by decide +kernel
theorem dX8_oddsOf_52 : decode cX8_oddsOf 52 = .ok (.lreturn, 1) := by decide +kernel
theorem dX8_keepFraction_0 : decode cX8_keepFraction 0 = .ok (.lload_n 1, 1) := by decide +kernel
theorem dX8_keepFraction_1 : decode cX8_keepFraction 1 = .ok (.lload_n 3, 1) := by decide +kernel
theorem dX8_keepFraction_2 : decode cX8_keepFraction 2 = .ok (.invokestatic 291, 3) := by decide +kernel
theorem dX8_keepFraction_5 : decode cX8_keepFraction 5 = .ok (.lstore 5, 2) := by decide +kernel
theorem dX8_keepFraction_7 : decode cX8_keepFraction 7 = .ok (.lload 5, 2) := by decide +kernel
theorem dX8_keepFraction_9 : decode cX8_keepFraction 9 = .ok (.lconst 0, 1) := by decide +kernel
theorem dX8_keepFraction_10 : decode cX8_keepFraction 10 = .ok (.lcmp, 1) := by decide +kernel
theorem dX8_keepFraction_11 : decode cX8_keepFraction 11 = .ok (.ifCond .le 19, 3) := by decide +kernel
theorem dX8_keepFraction_14 : decode cX8_keepFraction 14 = .ok (.aload_n 0, 1) := by decide +kernel
theorem dX8_keepFraction_15 : decode cX8_keepFraction 15 = .ok (.lload_n 1, 1) := by decide +kernel
theorem dX8_keepFraction_16 : decode cX8_keepFraction 16 = .ok (.lload 5, 2) := by decide +kernel
theorem dX8_keepFraction_18 : decode cX8_keepFraction 18 = .ok (.ldiv, 1) := by decide +kernel
theorem dX8_keepFraction_19 : decode cX8_keepFraction 19 = .ok (.putfield 41, 3) := by decide +kernel
theorem dX8_keepFraction_22 : decode cX8_keepFraction 22 = .ok (.aload_n 0, 1) := by decide +kernel
theorem dX8_keepFraction_23 : decode cX8_keepFraction 23 = .ok (.lload_n 3, 1) := by decide +kernel
theorem dX8_keepFraction_24 : decode cX8_keepFraction 24 = .ok (.lload 5, 2) := by decide +kernel
theorem dX8_keepFraction_26 : decode cX8_keepFraction 26 = .ok (.ldiv, 1) := by decide +kernel
theorem dX8_keepFraction_27 : decode cX8_keepFraction 27 = .ok (.putfield 45, 3) := by decide +kernel
theorem dX8_keepFraction_30 : decode cX8_keepFraction 30 = .ok (.return_, 1) := by decide +kernel
theorem dX8_greatestDivisor_0 : decode cX8_greatestDivisor 0 = .ok (.iconst 0, 1) := by decide +kernel
theorem dX8_greatestDivisor_1 : decode cX8_greatestDivisor 1 = .ok (.istore 4, 2) := by decide +kernel
theorem dX8_greatestDivisor_3 : decode cX8_greatestDivisor 3 = .ok (.iload 4, 2) := by decide +kernel
theorem dX8_greatestDivisor_5 : decode cX8_greatestDivisor 5 = .ok (.bipush 100, 2) := by decide +kernel
theorem dX8_greatestDivisor_7 : decode cX8_greatestDivisor 7 = .ok (.if_icmp .ge 25, 3) := by decide +kernel
theorem dX8_greatestDivisor_10 : decode cX8_greatestDivisor 10 = .ok (.lload_n 2, 1) := by decide +kernel
theorem dX8_greatestDivisor_11 : decode cX8_greatestDivisor 11 = .ok (.lconst 0, 1) := by decide +kernel
theorem dX8_greatestDivisor_12 : decode cX8_greatestDivisor 12 = .ok (.lcmp, 1) := by decide +kernel
theorem dX8_greatestDivisor_13 : decode cX8_greatestDivisor 13 = .ok (.ifCond .eq 19, 3) := by decide +kernel
theorem dX8_greatestDivisor_16 : decode cX8_greatestDivisor 16 = .ok (.lload_n 0, 1) := by decide +kernel
theorem dX8_greatestDivisor_17 : decode cX8_greatestDivisor 17 = .ok (.lload_n 2, 1) := by decide +kernel
theorem dX8_greatestDivisor_18 : decode cX8_greatestDivisor 18 = .ok (.lrem, 1) := by decide +kernel
theorem dX8_greatestDivisor_19 : decode cX8_greatestDivisor 19 = .ok (.lstore 5, 2) := by decide +kernel
theorem dX8_greatestDivisor_21 : decode cX8_greatestDivisor 21 = .ok (.lload_n 2, 1) := by decide +kernel
theorem dX8_greatestDivisor_22 : decode cX8_greatestDivisor 22 = .ok (.lstore_n 0, 1) := by decide +kernel
theorem dX8_greatestDivisor_23 : decode cX8_greatestDivisor 23 = .ok (.lload 5, 2) := by decide +kernel
theorem dX8_greatestDivisor_25 : decode cX8_greatestDivisor 25 = .ok (.lstore_n 2, 1) := by decide +kernel
theorem dX8_greatestDivisor_26 : decode cX8_greatestDivisor 26 = .ok (.iinc 4 1, 3) := by decide +kernel
theorem dX8_greatestDivisor_29 : decode cX8_greatestDivisor 29 = .ok (.goto (-26), 3) := by decide +kernel
theorem dX8_greatestDivisor_32 : decode cX8_greatestDivisor 32 = .ok (.lload_n 0, 1) := by decide +kernel
theorem dX8_greatestDivisor_33 : decode cX8_greatestDivisor 33 = .ok (.lreturn, 1) := by decide +kernel
theorem dJ6_bitCount_0f7a4_0 : decode cJ6_bitCount_0f7a4 0 = .ok (.iload_n 0, 1) := by decide +kernel
theorem dJ6_bitCount_0f7a4_1 : decode cJ6_bitCount_0f7a4 1 = .ok (.iload_n 0, 1) := by decide +kernel
theorem dJ6_bitCount_0f7a4_2 : decode cJ6_bitCount_0f7a4 2 = .ok (.iconst 1, 1) := by decide +kernel
theorem dJ6_bitCount_0f7a4_3 : decode cJ6_bitCount_0f7a4 3 = .ok (.iushr, 1) := by decide +kernel
theorem dJ6_bitCount_0f7a4_4 : decode cJ6_bitCount_0f7a4 4 = .ok (.ldc_w 265, 3) := by decide +kernel
theorem dJ6_bitCount_0f7a4_7 : decode cJ6_bitCount_0f7a4 7 = .ok (.iand, 1) := by decide +kernel
theorem dJ6_bitCount_0f7a4_8 : decode cJ6_bitCount_0f7a4 8 = .ok (.isub, 1) := by decide +kernel
theorem dJ6_bitCount_0f7a4_9 : decode cJ6_bitCount_0f7a4 9 = .ok (.istore_n 0, 1) := by decide +kernel
theorem dJ6_bitCount_0f7a4_10 : decode cJ6_bitCount_0f7a4 10 = .ok (.iload_n 0, 1) := by decide +kernel
theorem dJ6_bitCount_0f7a4_11 : decode cJ6_bitCount_0f7a4 11 = .ok (.ldc_w 266, 3) := by decide +kernel
theorem dJ6_bitCount_0f7a4_14 : decode cJ6_bitCount_0f7a4 14 = .ok (.iand, 1) := by decide +kernel
theorem dJ6_bitCount_0f7a4_15 : decode cJ6_bitCount_0f7a4 15 = .ok (.iload_n 0, 1) := by decide +kernel
theorem dJ6_bitCount_0f7a4_16 : decode cJ6_bitCount_0f7a4 16 = .ok (.iconst 2, 1) := by decide +kernel
theorem dJ6_bitCount_0f7a4_17 : decode cJ6_bitCount_0f7a4 17 = .ok (.iushr, 1) := by decide +kernel
theorem dJ6_bitCount_0f7a4_18 : decode cJ6_bitCount_0f7a4 18 = .ok (.ldc_w 266, 3) := by decide +kernel
theorem dJ6_bitCount_0f7a4_21 : decode cJ6_bitCount_0f7a4 21 = .ok (.iand, 1) := by decide +kernel
theorem dJ6_bitCount_0f7a4_22 : decode cJ6_bitCount_0f7a4 22 = .ok (.iadd, 1) := by decide +kernel
theorem dJ6_bitCount_0f7a4_23 : decode cJ6_bitCount_0f7a4 23 = .ok (.istore_n 0, 1) := by decide +kernel
theorem dJ6_bitCount_0f7a4_24 : decode cJ6_bitCount_0f7a4 24 = .ok (.iload_n 0, 1) := by decide +kernel
theorem dJ6_bitCount_0f7a4_25 : decode cJ6_bitCount_0f7a4 25 = .ok (.iload_n 0, 1) := by decide +kernel
theorem dJ6_bitCount_0f7a4_26 : decode cJ6_bitCount_0f7a4 26 = .ok (.iconst 4, 1) := by decide +kernel
theorem dJ6_bitCount_0f7a4_27 : decode cJ6_bitCount_0f7a4 27 = .ok (.iushr, 1) := by decide +kernel
theorem dJ6_bitCount_0f7a4_28 : decode cJ6_bitCount_0f7a4 28 = .ok (.iadd, 1) := by decide +kernel
theorem dJ6_bitCount_0f7a4_29 : decode cJ6_bitCount_0f7a4 29 = .ok (.ldc_w 267, 3) := by decide +kernel
theorem dJ6_bitCount_0f7a4_32 : decode cJ6_bitCount_0f7a4 32 = .ok (.iand, 1) := by decide +kernel
theorem dJ6_bitCount_0f7a4_33 : decode cJ6_bitCount_0f7a4 33 = .ok (.istore_n 0, 1) := by decide +kernel
theorem dJ6_bitCount_0f7a4_34 : decode cJ6_bitCount_0f7a4 34 = .ok (.iload_n 0, 1) := by decide +kernel
theorem dJ6_bitCount_0f7a4_35 : decode cJ6_bitCount_0f7a4 35 = .ok (.iload_n 0, 1) := by decide +kernel
theorem dJ6_bitCount_0f7a4_36 : decode cJ6_bitCount_0f7a4 36 = .ok (.bipush 8, 2) := by decide +kernel
theorem dJ6_bitCount_0f7a4_38 : decode cJ6_bitCount_0f7a4 38 = .ok (.iushr, 1) := by decide +kernel
theorem dJ6_bitCount_0f7a4_39 : decode cJ6_bitCount_0f7a4 39 = .ok (.iadd, 1) := by decide +kernel
theorem dJ6_bitCount_0f7a4_40 : decode cJ6_bitCount_0f7a4 40 = .ok (.istore_n 0, 1) := by decide +kernel
theorem dJ6_bitCount_0f7a4_41 : decode cJ6_bitCount_0f7a4 41 = .ok (.iload_n 0, 1) := by decide +kernel
theorem dJ6_bitCount_0f7a4_42 : decode cJ6_bitCount_0f7a4 42 = .ok (.iload_n 0, 1) := by decide +kernel
theorem dJ6_bitCount_0f7a4_43 : decode cJ6_bitCount_0f7a4 43 = .ok (.bipush 16, 2) := by decide +kernel
theorem dJ6_bitCount_0f7a4_45 : decode cJ6_bitCount_0f7a4 45 = .ok (.iushr, 1) := by decide +kernel
theorem dJ6_bitCount_0f7a4_46 : decode cJ6_bitCount_0f7a4 46 = .ok (.iadd, 1) := by decide +kernel
theorem dJ6_bitCount_0f7a4_47 : decode cJ6_bitCount_0f7a4 47 = .ok (.istore_n 0, 1) := by decide +kernel
theorem dJ6_bitCount_0f7a4_48 : decode cJ6_bitCount_0f7a4 48 = .ok (.iload_n 0, 1) := by decide +kernel
theorem dJ6_bitCount_0f7a4_49 : decode cJ6_bitCount_0f7a4 49 = .ok (.bipush 63, 2) := by decide +kernel
theorem dJ6_bitCount_0f7a4_51 : decode cJ6_bitCount_0f7a4 51 = .ok (.iand, 1) := by decide +kernel
theorem dJ6_bitCount_0f7a4_52 : decode cJ6_bitCount_0f7a4 52 = .ok (.ireturn, 1) := by decide +kernel
theorem dJ9_max_7cf53_0 : decode cJ9_max_7cf53 0 = .ok (.iload_n 0, 1) := by decide +kernel
theorem dJ9_max_7cf53_1 : decode cJ9_max_7cf53 1 = .ok (.iload_n 1, 1) := by decide +kernel
theorem dJ9_max_7cf53_2 : decode cJ9_max_7cf53 2 = .ok (.if_icmp .lt 7, 3) := by decide +kernel
theorem dJ9_max_7cf53_5 : decode cJ9_max_7cf53 5 = .ok (.iload_n 0, 1) := by decide +kernel
theorem dJ9_max_7cf53_6 : decode cJ9_max_7cf53 6 = .ok (.goto 4, 3) := by decide +kernel
theorem dJ9_max_7cf53_9 : decode cJ9_max_7cf53 9 = .ok (.iload_n 1, 1) := by decide +kernel
theorem dJ9_max_7cf53_10 : decode cJ9_max_7cf53 10 = .ok (.ireturn, 1) := by decide +kernel
theorem dJ9_min_7cf53_0 : decode cJ9_min_7cf53 0 = .ok (.iload_n 0, 1) := by decide +kernel
theorem dJ9_min_7cf53_1 : decode cJ9_min_7cf53 1 = .ok (.iload_n 1, 1) := by decide +kernel
theorem dJ9_min_7cf53_2 : decode cJ9_min_7cf53 2 = .ok (.if_icmp .gt 7, 3) := by decide +kernel
theorem dJ9_min_7cf53_5 : decode cJ9_min_7cf53 5 = .ok (.iload_n 0, 1) := by decide +kernel
theorem dJ9_min_7cf53_6 : decode cJ9_min_7cf53 6 = .ok (.goto 4, 3) := by decide +kernel
theorem dJ9_min_7cf53_9 : decode cJ9_min_7cf53 9 = .ok (.iload_n 1, 1) := by decide +kernel
theorem dJ9_min_7cf53_10 : decode cJ9_min_7cf53 10 = .ok (.ireturn, 1) := by decide +kernel
theorem dJ0_length_8abf5_0 : decode cJ0_length_8abf5 0 = .ok (.aload_n 0, 1) := by decide +kernel
theorem dJ0_length_8abf5_1 : decode cJ0_length_8abf5 1 = .ok (.getfield 9, 3) := by decide +kernel
theorem dJ0_length_8abf5_4 : decode cJ0_length_8abf5 4 = .ok (.arraylength, 1) := by decide +kernel
theorem dJ0_length_8abf5_5 : decode cJ0_length_8abf5 5 = .ok (.aload_n 0, 1) := by decide +kernel
theorem dJ0_length_8abf5_6 : decode cJ0_length_8abf5 6 = .ok (.invokevirtual 335, 3) := by decide +kernel
theorem dJ0_length_8abf5_9 : decode cJ0_length_8abf5 9 = .ok (.ishr, 1) := by decide +kernel
theorem dJ0_length_8abf5_10 : decode cJ0_length_8abf5 10 = .ok (.ireturn, 1) := by decide +kernel
theorem dJ0_charAt_5068e_0 : decode cJ0_charAt_5068e 0 = .ok (.aload_n 0, 1) := by decide +kernel
theorem dJ0_charAt_5068e_1 : decode cJ0_charAt_5068e 1 = .ok (.invokevirtual 492, 3) := by decide +kernel
theorem dJ0_charAt_5068e_4 : decode cJ0_charAt_5068e 4 = .ok (.ifCond .eq 12, 3) := by decide +kernel
theorem dJ0_charAt_5068e_7 : decode cJ0_charAt_5068e 7 = .ok (.aload_n 0, 1) := by decide +kernel
theorem dJ0_charAt_5068e_8 : decode cJ0_charAt_5068e 8 = .ok (.getfield 9, 3) := by decide +kernel
theorem dJ0_charAt_5068e_11 : decode cJ0_charAt_5068e 11 = .ok (.iload_n 1, 1) := by decide +kernel
theorem dJ0_charAt_5068e_12 : decode cJ0_charAt_5068e 12 = .ok (.invokestatic 495, 3) := by decide +kernel
theorem dJ0_charAt_5068e_15 : decode cJ0_charAt_5068e 15 = .ok (.ireturn, 1) := by decide +kernel
theorem dJ0_charAt_5068e_16 : decode cJ0_charAt_5068e 16 = .ok (.aload_n 0, 1) := by decide +kernel
theorem dJ0_charAt_5068e_17 : decode cJ0_charAt_5068e 17 = .ok (.getfield 9, 3) := by decide +kernel
theorem dJ0_charAt_5068e_20 : decode cJ0_charAt_5068e 20 = .ok (.iload_n 1, 1) := by decide +kernel
theorem dJ0_charAt_5068e_21 : decode cJ0_charAt_5068e 21 = .ok (.invokestatic 498, 3) := by decide +kernel
theorem dJ0_charAt_5068e_24 : decode cJ0_charAt_5068e 24 = .ok (.ireturn, 1) := by decide +kernel
theorem dJ0_coder_7d493_0 : decode cJ0_coder_7d493 0 = .ok (.getstatic 38, 3) := by decide +kernel
theorem dJ0_coder_7d493_3 : decode cJ0_coder_7d493 3 = .ok (.ifCond .eq 10, 3) := by decide +kernel
theorem dJ0_coder_7d493_6 : decode cJ0_coder_7d493 6 = .ok (.aload_n 0, 1) := by decide +kernel
theorem dJ0_coder_7d493_7 : decode cJ0_coder_7d493 7 = .ok (.getfield 15, 3) := by decide +kernel
theorem dJ0_coder_7d493_10 : decode cJ0_coder_7d493 10 = .ok (.goto 4, 3) := by decide +kernel
theorem dJ0_coder_7d493_13 : decode cJ0_coder_7d493 13 = .ok (.iconst 1, 1) := by decide +kernel
theorem dJ0_coder_7d493_14 : decode cJ0_coder_7d493 14 = .ok (.ireturn, 1) := by decide +kernel
theorem dJ0_isLatin1_aae02_0 : decode cJ0_isLatin1_aae02 0 = .ok (.getstatic 38, 3) := by decide +kernel
theorem dJ0_isLatin1_aae02_3 : decode cJ0_isLatin1_aae02 3 = .ok (.ifCond .eq 14, 3) := by decide +kernel
theorem dJ0_isLatin1_aae02_6 : decode cJ0_isLatin1_aae02 6 = .ok (.aload_n 0, 1) := by decide +kernel
theorem dJ0_isLatin1_aae02_7 : decode cJ0_isLatin1_aae02 7 = .ok (.getfield 15, 3) := by decide +kernel
theorem dJ0_isLatin1_aae02_10 : decode cJ0_isLatin1_aae02 10 = .ok (.ifCond .ne 7, 3) := by decide +kernel
theorem dJ0_isLatin1_aae02_13 : decode cJ0_isLatin1_aae02 13 = .ok (.iconst 1, 1) := by decide +kernel
theorem dJ0_isLatin1_aae02_14 : decode cJ0_isLatin1_aae02 14 = .ok (.goto 4, 3) := by decide +kernel
theorem dJ0_isLatin1_aae02_17 : decode cJ0_isLatin1_aae02 17 = .ok (.iconst 0, 1) := by decide +kernel
theorem dJ0_isLatin1_aae02_18 : decode cJ0_isLatin1_aae02 18 = .ok (.ireturn, 1) := by decide +kernel
theorem dJ0_checkIndex_df160_0 : decode cJ0_checkIndex_df160 0 = .ok (.iload_n 0, 1) := by decide +kernel
theorem dJ0_checkIndex_df160_1 : decode cJ0_checkIndex_df160 1 = .ok (.iload_n 1, 1) := by decide +kernel
theorem dJ0_checkIndex_df160_2 : decode cJ0_checkIndex_df160 2 = .ok (.getstatic 1053, 3) := by decide +kernel
theorem dJ0_checkIndex_df160_5 : decode cJ0_checkIndex_df160 5 = .ok (.invokestatic 1059, 3) := by decide +kernel
theorem dJ0_checkIndex_df160_8 : decode cJ0_checkIndex_df160 8 = .ok (.pop, 1) := by decide +kernel
theorem dJ0_checkIndex_df160_9 : decode cJ0_checkIndex_df160 9 = .ok (.return_, 1) := by decide +kernel
theorem dJ1_charAt_3b067_0 : decode cJ1_charAt_3b067 0 = .ok (.iload_n 1, 1) := by decide +kernel
theorem dJ1_charAt_3b067_1 : decode cJ1_charAt_3b067 1 = .ok (.aload_n 0, 1) := by decide +kernel
theorem dJ1_charAt_3b067_2 : decode cJ1_charAt_3b067 2 = .ok (.arraylength, 1) := by decide +kernel
theorem dJ1_charAt_3b067_3 : decode cJ1_charAt_3b067 3 = .ok (.invokestatic 9, 3) := by decide +kernel
theorem dJ1_charAt_3b067_6 : decode cJ1_charAt_3b067 6 = .ok (.aload_n 0, 1) := by decide +kernel
theorem dJ1_charAt_3b067_7 : decode cJ1_charAt_3b067 7 = .ok (.iload_n 1, 1) := by decide +kernel
theorem dJ1_charAt_3b067_8 : decode cJ1_charAt_3b067 8 = .ok (.baload, 1) := by decide +kernel
theorem dJ1_charAt_3b067_9 : decode cJ1_charAt_3b067 9 = .ok (.sipush 255, 3) := by decide +kernel
theorem dJ1_charAt_3b067_12 : decode cJ1_charAt_3b067 12 = .ok (.iand, 1) := by decide +kernel
theorem dJ1_charAt_3b067_13 : decode cJ1_charAt_3b067 13 = .ok (.i2c, 1) := by decide +kernel
theorem dJ1_charAt_3b067_14 : decode cJ1_charAt_3b067 14 = .ok (.ireturn, 1) := by decide +kernel
theorem dJ2_getChar_3b067_0 : decode cJ2_getChar_3b067 0 = .ok (.getstatic 44, 3) := by decide +kernel
theorem dJ2_getChar_3b067_3 : decode cJ2_getChar_3b067 3 = .ok (.ifCond .ne 25, 3) := by decide +kernel
theorem dJ2_getChar_3b067_6 : decode cJ2_getChar_3b067 6 = .ok (.iload_n 1, 1) := by decide +kernel
theorem dJ2_getChar_3b067_7 : decode cJ2_getChar_3b067 7 = .ok (.ifCond .lt 11, 3) := by decide +kernel
theorem dJ2_getChar_3b067_10 : decode cJ2_getChar_3b067 10 = .ok (.iload_n 1, 1) := by decide +kernel
theorem dJ2_getChar_3b067_11 : decode cJ2_getChar_3b067 11 = .ok (.aload_n 0, 1) := by decide +kernel
theorem dJ2_getChar_3b067_12 : decode cJ2_getChar_3b067 12 = .ok (.invokestatic 48, 3) := by decide +kernel
theorem dJ2_getChar_3b067_15 : decode cJ2_getChar_3b067 15 = .ok (.if_icmp .lt 13, 3) := by decide +kernel
theorem dJ2_getChar_3b067_18 : decode cJ2_getChar_3b067 18 = .ok (.new 52, 3) := by decide +kernel
theorem dJ2_getChar_3b067_21 : decode cJ2_getChar_3b067 21 = .ok (.dup, 1) := by decide +kernel
theorem dJ2_getChar_3b067_22 : decode cJ2_getChar_3b067 22 = .ok (.ldc 54, 2) := by decide +kernel
theorem dJ2_getChar_3b067_24 : decode cJ2_getChar_3b067 24 = .ok (.invokespecial 56, 3) := by decide +kernel
theorem dJ2_getChar_3b067_27 : decode cJ2_getChar_3b067 27 = .ok (.athrow, 1) := by decide +kernel
theorem dJ2_getChar_3b067_28 : decode cJ2_getChar_3b067 28 = .ok (.iload_n 1, 1) := by decide +kernel
theorem dJ2_getChar_3b067_29 : decode cJ2_getChar_3b067 29 = .ok (.iconst 1, 1) := by decide +kernel
theorem dJ2_getChar_3b067_30 : decode cJ2_getChar_3b067 30 = .ok (.ishl, 1) := by decide +kernel
theorem dJ2_getChar_3b067_31 : decode cJ2_getChar_3b067 31 = .ok (.istore_n 1, 1) := by decide +kernel
theorem dJ2_getChar_3b067_32 : decode cJ2_getChar_3b067 32 = .ok (.aload_n 0, 1) := by decide +kernel
theorem dJ2_getChar_3b067_33 : decode cJ2_getChar_3b067 33 = .ok (.iload_n 1, 1) := by decide +kernel
theorem dJ2_getChar_3b067_34 : decode cJ2_getChar_3b067 34 = .ok (.iinc 1 1, 3) := by decide +kernel
theorem dJ2_getChar_3b067_37 : decode cJ2_getChar_3b067 37 = .ok (.baload, 1) := by decide +kernel
theorem dJ2_getChar_3b067_38 : decode cJ2_getChar_3b067 38 = .ok (.sipush 255, 3) := by decide +kernel
theorem dJ2_getChar_3b067_41 : decode cJ2_getChar_3b067 41 = .ok (.iand, 1) := by decide +kernel
theorem dJ2_getChar_3b067_42 : decode cJ2_getChar_3b067 42 = .ok (.getstatic 59, 3) := by decide +kernel
theorem dJ2_getChar_3b067_45 : decode cJ2_getChar_3b067 45 = .ok (.ishl, 1) := by decide +kernel
theorem dJ2_getChar_3b067_46 : decode cJ2_getChar_3b067 46 = .ok (.aload_n 0, 1) := by decide +kernel
theorem dJ2_getChar_3b067_47 : decode cJ2_getChar_3b067 47 = .ok (.iload_n 1, 1) := by decide +kernel
theorem dJ2_getChar_3b067_48 : decode cJ2_getChar_3b067 48 = .ok (.baload, 1) := by decide +kernel
theorem dJ2_getChar_3b067_49 : decode cJ2_getChar_3b067 49 = .ok (.sipush 255, 3) := by decide +kernel
theorem dJ2_getChar_3b067_52 : decode cJ2_getChar_3b067 52 = .ok (.iand, 1) := by decide +kernel
theorem dJ2_getChar_3b067_53 : decode cJ2_getChar_3b067 53 = .ok (.getstatic 63, 3) := by decide +kernel
theorem dJ2_getChar_3b067_56 : decode cJ2_getChar_3b067 56 = .ok (.ishl, 1) := by decide +kernel
theorem dJ2_getChar_3b067_57 : decode cJ2_getChar_3b067 57 = .ok (.ior, 1) := by decide +kernel
theorem dJ2_getChar_3b067_58 : decode cJ2_getChar_3b067 58 = .ok (.i2c, 1) := by decide +kernel
theorem dJ2_getChar_3b067_59 : decode cJ2_getChar_3b067 59 = .ok (.ireturn, 1) := by decide +kernel
theorem dJ2_length_9d52b_0 : decode cJ2_length_9d52b 0 = .ok (.aload_n 0, 1) := by decide +kernel
theorem dJ2_length_9d52b_1 : decode cJ2_length_9d52b 1 = .ok (.arraylength, 1) := by decide +kernel
theorem dJ2_length_9d52b_2 : decode cJ2_length_9d52b 2 = .ok (.iconst 1, 1) := by decide +kernel
theorem dJ2_length_9d52b_3 : decode cJ2_length_9d52b 3 = .ok (.ishr, 1) := by decide +kernel
theorem dJ2_length_9d52b_4 : decode cJ2_length_9d52b 4 = .ok (.ireturn, 1) := by decide +kernel
theorem dJ2_charAt_3b067_0 : decode cJ2_charAt_3b067 0 = .ok (.iload_n 1, 1) := by decide +kernel
theorem dJ2_charAt_3b067_1 : decode cJ2_charAt_3b067 1 = .ok (.aload_n 0, 1) := by decide +kernel
theorem dJ2_charAt_3b067_2 : decode cJ2_charAt_3b067 2 = .ok (.invokestatic 67, 3) := by decide +kernel
theorem dJ2_charAt_3b067_5 : decode cJ2_charAt_3b067 5 = .ok (.aload_n 0, 1) := by decide +kernel
theorem dJ2_charAt_3b067_6 : decode cJ2_charAt_3b067 6 = .ok (.iload_n 1, 1) := by decide +kernel
theorem dJ2_charAt_3b067_7 : decode cJ2_charAt_3b067 7 = .ok (.invokestatic 71, 3) := by decide +kernel
theorem dJ2_charAt_3b067_10 : decode cJ2_charAt_3b067 10 = .ok (.ireturn, 1) := by decide +kernel
theorem dJ2_checkIndex_2214a_0 : decode cJ2_checkIndex_2214a 0 = .ok (.iload_n 0, 1) := by decide +kernel
theorem dJ2_checkIndex_2214a_1 : decode cJ2_checkIndex_2214a 1 = .ok (.aload_n 1, 1) := by decide +kernel
theorem dJ2_checkIndex_2214a_2 : decode cJ2_checkIndex_2214a 2 = .ok (.invokestatic 48, 3) := by decide +kernel
theorem dJ2_checkIndex_2214a_5 : decode cJ2_checkIndex_2214a 5 = .ok (.invokestatic 414, 3) := by decide +kernel
theorem dJ2_checkIndex_2214a_8 : decode cJ2_checkIndex_2214a 8 = .ok (.return_, 1) := by decide +kernel
theorem dJ3_checkIndex_8e157_0 : decode cJ3_checkIndex_8e157 0 = .ok (.iload_n 0, 1) := by decide +kernel
theorem dJ3_checkIndex_8e157_1 : decode cJ3_checkIndex_8e157 1 = .ok (.ifCond .lt 8, 3) := by decide +kernel
theorem dJ3_checkIndex_8e157_4 : decode cJ3_checkIndex_8e157 4 = .ok (.iload_n 0, 1) := by decide +kernel
theorem dJ3_checkIndex_8e157_5 : decode cJ3_checkIndex_8e157 5 = .ok (.iload_n 1, 1) := by decide +kernel
theorem dJ3_checkIndex_8e157_6 : decode cJ3_checkIndex_8e157 6 = .ok (.if_icmp .lt 10, 3) := by decide +kernel
theorem dJ3_checkIndex_8e157_9 : decode cJ3_checkIndex_8e157 9 = .ok (.aload_n 2, 1) := by decide +kernel
theorem dJ3_checkIndex_8e157_10 : decode cJ3_checkIndex_8e157 10 = .ok (.iload_n 0, 1) := by decide +kernel
theorem dJ3_checkIndex_8e157_11 : decode cJ3_checkIndex_8e157 11 = .ok (.iload_n 1, 1) := by decide +kernel
theorem dJ3_checkIndex_8e157_12 : decode cJ3_checkIndex_8e157 12 = .ok (.invokestatic 95, 3) := by decide +kernel
theorem dJ3_checkIndex_8e157_15 : decode cJ3_checkIndex_8e157 15 = .ok (.athrow, 1) := by decide +kernel
theorem dJ3_checkIndex_8e157_16 : decode cJ3_checkIndex_8e157 16 = .ok (.iload_n 0, 1) := by decide +kernel
theorem dJ3_checkIndex_8e157_17 : decode cJ3_checkIndex_8e157 17 = .ok (.ireturn, 1) := by decide +kernel
