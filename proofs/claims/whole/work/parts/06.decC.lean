theorem dX0_init_0 : decode cX0_init 0 = .ok (.aload_n 0, 1) := by decide +kernel
theorem dX0_init_1 : decode cX0_init 1 = .ok (.invokespecial 3, 3) := by decide +kernel
theorem dX0_init_4 : decode cX0_init 4 = .ok (.aload_n 0, 1) := by decide +kernel
theorem dX0_init_5 : decode cX0_init 5 = .ok (.bipush 20, 2) := by decide +kernel
theorem dX0_init_7 : decode cX0_init 7 = .ok (.anewarray 9, 3) := by decide +kernel
theorem dX0_init_10 : decode cX0_init 10 = .ok (.putfield 11, 3) := by decide +kernel
theorem dX0_init_13 : decode cX0_init 13 = .ok (.iconst 0, 1) := by decide +kernel
theorem dX0_init_14 : decode cX0_init 14 = .ok (.istore_n 1, 1) := by decide +kernel
theorem dX0_init_15 : decode cX0_init 15 = .ok (.iload_n 1, 1) := by decide +kernel
theorem dX0_init_16 : decode cX0_init 16 = .ok (.bipush 20, 2) := by decide +kernel
theorem dX0_init_18 : decode cX0_init 18 = .ok (.if_icmp .ge 22, 3) := by decide +kernel
theorem dX0_init_21 : decode cX0_init 21 = .ok (.aload_n 0, 1) := by decide +kernel
theorem dX0_init_22 : decode cX0_init 22 = .ok (.getfield 11, 3) := by decide +kernel
theorem dX0_init_25 : decode cX0_init 25 = .ok (.iload_n 1, 1) := by decide +kernel
theorem dX0_init_26 : decode cX0_init 26 = .ok (.new 9, 3) := by decide +kernel
theorem dX0_init_29 : decode cX0_init 29 = .ok (.dup, 1) := by decide +kernel
theorem dX0_init_30 : decode cX0_init 30 = .ok (.invokespecial 17, 3) := by decide +kernel
theorem dX0_init_33 : decode cX0_init 33 = .ok (.aastore, 1) := by decide +kernel
theorem dX0_init_34 : decode cX0_init 34 = .ok (.iinc 1 1, 3) := by decide +kernel
theorem dX0_init_37 : decode cX0_init 37 = .ok (.goto (-22), 3) := by decide +kernel
theorem dX0_init_40 : decode cX0_init 40 = .ok (.return_, 1) := by decide +kernel
theorem dX0_forget_0 : decode cX0_forget 0 = .ok (.aload_n 0, 1) := by decide +kernel
theorem dX0_forget_1 : decode cX0_forget 1 = .ok (.iconst 0, 1) := by decide +kernel
theorem dX0_forget_2 : decode cX0_forget 2 = .ok (.putfield 18, 3) := by decide +kernel
theorem dX0_forget_5 : decode cX0_forget 5 = .ok (.return_, 1) := by decide +kernel
theorem dX0_keep_0 : decode cX0_keep 0 = .ok (.aload_n 0, 1) := by decide +kernel
theorem dX0_keep_1 : decode cX0_keep 1 = .ok (.getfield 11, 3) := by decide +kernel
theorem dX0_keep_4 : decode cX0_keep 4 = .ok (.aload_n 0, 1) := by decide +kernel
theorem dX0_keep_5 : decode cX0_keep 5 = .ok (.getfield 22, 3) := by decide +kernel
theorem dX0_keep_8 : decode cX0_keep 8 = .ok (.aload_n 0, 1) := by decide +kernel
theorem dX0_keep_9 : decode cX0_keep 9 = .ok (.getfield 18, 3) := by decide +kernel
theorem dX0_keep_12 : decode cX0_keep 12 = .ok (.iadd, 1) := by decide +kernel
theorem dX0_keep_13 : decode cX0_keep 13 = .ok (.bipush 20, 2) := by decide +kernel
theorem dX0_keep_15 : decode cX0_keep 15 = .ok (.irem, 1) := by decide +kernel
theorem dX0_keep_16 : decode cX0_keep 16 = .ok (.aaload, 1) := by decide +kernel
theorem dX0_keep_17 : decode cX0_keep 17 = .ok (.aload_n 1, 1) := by decide +kernel
theorem dX0_keep_18 : decode cX0_keep 18 = .ok (.invokevirtual 25, 3) := by decide +kernel
theorem dX0_keep_21 : decode cX0_keep 21 = .ok (.aload_n 0, 1) := by decide +kernel
theorem dX0_keep_22 : decode cX0_keep 22 = .ok (.getfield 18, 3) := by decide +kernel
theorem dX0_keep_25 : decode cX0_keep 25 = .ok (.bipush 20, 2) := by decide +kernel
theorem dX0_keep_27 : decode cX0_keep 27 = .ok (.if_icmp .ge 16, 3) := by decide +kernel
theorem dX0_keep_30 : decode cX0_keep 30 = .ok (.aload_n 0, 1) := by decide +kernel
theorem dX0_keep_31 : decode cX0_keep 31 = .ok (.dup, 1) := by decide +kernel
theorem dX0_keep_32 : decode cX0_keep 32 = .ok (.getfield 18, 3) := by decide +kernel
theorem dX0_keep_35 : decode cX0_keep 35 = .ok (.iconst 1, 1) := by decide +kernel
theorem dX0_keep_36 : decode cX0_keep 36 = .ok (.iadd, 1) := by decide +kernel
theorem dX0_keep_37 : decode cX0_keep 37 = .ok (.putfield 18, 3) := by decide +kernel
theorem dX0_keep_40 : decode cX0_keep 40 = .ok (.goto 16, 3) := by decide +kernel
theorem dX0_keep_43 : decode cX0_keep 43 = .ok (.aload_n 0, 1) := by decide +kernel
theorem dX0_keep_44 : decode cX0_keep 44 = .ok (.aload_n 0, 1) := by decide +kernel
theorem dX0_keep_45 : decode cX0_keep 45 = .ok (.getfield 22, 3) := by decide +kernel
theorem dX0_keep_48 : decode cX0_keep 48 = .ok (.iconst 1, 1) := by decide +kernel
theorem dX0_keep_49 : decode cX0_keep 49 = .ok (.iadd, 1) := by decide +kernel
theorem dX0_keep_50 : decode cX0_keep 50 = .ok (.bipush 20, 2) := by decide +kernel
theorem dX0_keep_52 : decode cX0_keep 52 = .ok (.irem, 1) := by decide +kernel
theorem dX0_keep_53 : decode cX0_keep 53 = .ok (.putfield 22, 3) := by decide +kernel
theorem dX0_keep_56 : decode cX0_keep 56 = .ok (.return_, 1) := by decide +kernel
theorem dX0_back_0 : decode cX0_back 0 = .ok (.aload_n 0, 1) := by decide +kernel
theorem dX0_back_1 : decode cX0_back 1 = .ok (.getfield 18, 3) := by decide +kernel
theorem dX0_back_4 : decode cX0_back 4 = .ok (.iconst 1, 1) := by decide +kernel
theorem dX0_back_5 : decode cX0_back 5 = .ok (.if_icmp .ge 5, 3) := by decide +kernel
theorem dX0_back_8 : decode cX0_back 8 = .ok (.iconst 0, 1) := by decide +kernel
theorem dX0_back_9 : decode cX0_back 9 = .ok (.ireturn, 1) := by decide +kernel
theorem dX0_back_10 : decode cX0_back 10 = .ok (.aload_n 0, 1) := by decide +kernel
theorem dX0_back_11 : decode cX0_back 11 = .ok (.dup, 1) := by decide +kernel
theorem dX0_back_12 : decode cX0_back 12 = .ok (.getfield 18, 3) := by decide +kernel
theorem dX0_back_15 : decode cX0_back 15 = .ok (.iconst 1, 1) := by decide +kernel
theorem dX0_back_16 : decode cX0_back 16 = .ok (.isub, 1) := by decide +kernel
theorem dX0_back_17 : decode cX0_back 17 = .ok (.putfield 18, 3) := by decide +kernel
theorem dX0_back_20 : decode cX0_back 20 = .ok (.aload_n 1, 1) := by decide +kernel
theorem dX0_back_21 : decode cX0_back 21 = .ok (.aload_n 0, 1) := by decide +kernel
theorem dX0_back_22 : decode cX0_back 22 = .ok (.getfield 11, 3) := by decide +kernel
theorem dX0_back_25 : decode cX0_back 25 = .ok (.aload_n 0, 1) := by decide +kernel
theorem dX0_back_26 : decode cX0_back 26 = .ok (.getfield 22, 3) := by decide +kernel
theorem dX0_back_29 : decode cX0_back 29 = .ok (.aload_n 0, 1) := by decide +kernel
theorem dX0_back_30 : decode cX0_back 30 = .ok (.getfield 18, 3) := by decide +kernel
theorem dX0_back_33 : decode cX0_back 33 = .ok (.iadd, 1) := by decide +kernel
theorem dX0_back_34 : decode cX0_back 34 = .ok (.bipush 20, 2) := by decide +kernel
theorem dX0_back_36 : decode cX0_back 36 = .ok (.irem, 1) := by decide +kernel
theorem dX0_back_37 : decode cX0_back 37 = .ok (.aaload, 1) := by decide +kernel
theorem dX0_back_38 : decode cX0_back 38 = .ok (.invokevirtual 25, 3) := by decide +kernel
theorem dX0_back_41 : decode cX0_back 41 = .ok (.iconst 1, 1) := by decide +kernel
theorem dX0_back_42 : decode cX0_back 42 = .ok (.ireturn, 1) := by decide +kernel
theorem dX1_init_0 : decode cX1_init 0 = .ok (.aload_n 0, 1) := by decide +kernel
theorem dX1_init_1 : decode cX1_init 1 = .ok (.invokespecial 3, 3) := by decide +kernel
theorem dX1_init_4 : decode cX1_init 4 = .ok (.aload_n 0, 1) := by decide +kernel
theorem dX1_init_5 : decode cX1_init 5 = .ok (.new 9, 3) := by decide +kernel
theorem dX1_init_8 : decode cX1_init 8 = .ok (.dup, 1) := by decide +kernel
theorem dX1_init_9 : decode cX1_init 9 = .ok (.invokespecial 11, 3) := by decide +kernel
theorem dX1_init_12 : decode cX1_init 12 = .ok (.putfield 12, 3) := by decide +kernel
theorem dX1_init_15 : decode cX1_init 15 = .ok (.aload_n 0, 1) := by decide +kernel
theorem dX1_init_16 : decode cX1_init 16 = .ok (.bipush 41, 2) := by decide +kernel
theorem dX1_init_18 : decode cX1_init 18 = .ok (.bipush 64, 2) := by decide +kernel
theorem dX1_init_20 : decode cX1_init 20 = .ok (.multianewarray 18 2, 4) := by decide +kernel
theorem dX1_init_24 : decode cX1_init 24 = .ok (.putfield 20, 3) := by decide +kernel
theorem dX1_init_27 : decode cX1_init 27 = .ok (.aload_n 0, 1) := by decide +kernel
theorem dX1_init_28 : decode cX1_init 28 = .ok (.bipush 41, 2) := by decide +kernel
theorem dX1_init_30 : decode cX1_init 30 = .ok (.bipush 6, 2) := by decide +kernel
theorem dX1_init_32 : decode cX1_init 32 = .ok (.multianewarray 18 2, 4) := by decide +kernel
theorem dX1_init_36 : decode cX1_init 36 = .ok (.putfield 23, 3) := by decide +kernel
theorem dX1_init_39 : decode cX1_init 39 = .ok (.aload_n 0, 1) := by decide +kernel
theorem dX1_init_40 : decode cX1_init 40 = .ok (.bipush 6, 2) := by decide +kernel
theorem dX1_init_42 : decode cX1_init 42 = .ok (.newarray .int, 2) := by decide +kernel
theorem dX1_init_44 : decode cX1_init 44 = .ok (.putfield 26, 3) := by decide +kernel
theorem dX1_init_47 : decode cX1_init 47 = .ok (.aload_n 0, 1) := by decide +kernel
theorem dX1_init_48 : decode cX1_init 48 = .ok (.aload_n 1, 1) := by decide +kernel
theorem dX1_init_49 : decode cX1_init 49 = .ok (.putfield 30, 3) := by decide +kernel
theorem dX1_init_52 : decode cX1_init 52 = .ok (.aload_n 0, 1) := by decide +kernel
theorem dX1_init_53 : decode cX1_init 53 = .ok (.new 34, 3) := by decide +kernel
theorem dX1_init_56 : decode cX1_init 56 = .ok (.dup, 1) := by decide +kernel
theorem dX1_init_57 : decode cX1_init 57 = .ok (.aload_n 1, 1) := by decide +kernel
theorem dX1_init_58 : decode cX1_init 58 = .ok (.invokespecial 36, 3) := by decide +kernel
theorem dX1_init_61 : decode cX1_init 61 = .ok (.putfield 39, 3) := by decide +kernel
theorem dX1_init_64 : decode cX1_init 64 = .ok (.return_, 1) := by decide +kernel
theorem dX1_forget_0 : decode cX1_forget 0 = .ok (.aload_n 0, 1) := by decide +kernel
theorem dX1_forget_1 : decode cX1_forget 1 = .ok (.iconst 0, 1) := by decide +kernel
theorem dX1_forget_2 : decode cX1_forget 2 = .ok (.putfield 43, 3) := by decide +kernel
theorem dX1_forget_5 : decode cX1_forget 5 = .ok (.return_, 1) := by decide +kernel
theorem dX1_learn_0 : decode cX1_learn 0 = .ok (.aload_n 0, 1) := by decide +kernel
theorem dX1_learn_1 : decode cX1_learn 1 = .ok (.getfield 43, 3) := by decide +kernel
theorem dX1_learn_4 : decode cX1_learn 4 = .ok (.ifCond .eq 4, 3) := by decide +kernel
theorem dX1_learn_7 : decode cX1_learn 7 = .ok (.return_, 1) := by decide +kernel
theorem dX1_learn_8 : decode cX1_learn 8 = .ok (.aload_n 0, 1) := by decide +kernel
theorem dX1_learn_9 : decode cX1_learn 9 = .ok (.iconst 1, 1) := by decide +kernel
theorem dX1_learn_10 : decode cX1_learn 10 = .ok (.putfield 43, 3) := by decide +kernel
theorem dX1_learn_13 : decode cX1_learn 13 = .ok (.aload_n 0, 1) := by decide +kernel
theorem dX1_learn_14 : decode cX1_learn 14 = .ok (.getfield 12, 3) := by decide +kernel
theorem dX1_learn_17 : decode cX1_learn 17 = .ok (.aload_n 1, 1) := by decide +kernel
theorem dX1_learn_18 : decode cX1_learn 18 = .ok (.invokevirtual 47, 3) := by decide +kernel
theorem dX1_learn_21 : decode cX1_learn 21 = .ok (.iconst 0, 1) := by decide +kernel
theorem dX1_learn_22 : decode cX1_learn 22 = .ok (.istore_n 3, 1) := by decide +kernel
theorem dX1_learn_23 : decode cX1_learn 23 = .ok (.iload_n 3, 1) := by decide +kernel
theorem dX1_learn_24 : decode cX1_learn 24 = .ok (.bipush 6, 2) := by decide +kernel
theorem dX1_learn_26 : decode cX1_learn 26 = .ok (.if_icmp .ge 16, 3) := by decide +kernel
theorem dX1_learn_29 : decode cX1_learn 29 = .ok (.aload_n 0, 1) := by decide +kernel
theorem dX1_learn_30 : decode cX1_learn 30 = .ok (.getfield 26, 3) := by decide +kernel
theorem dX1_learn_33 : decode cX1_learn 33 = .ok (.iload_n 3, 1) := by decide +kernel
theorem dX1_learn_34 : decode cX1_learn 34 = .ok (.iconst (-1), 1) := by decide +kernel
theorem dX1_learn_35 : decode cX1_learn 35 = .ok (.iastore, 1) := by decide +kernel
theorem dX1_learn_36 : decode cX1_learn 36 = .ok (.iinc 3 1, 3) := by decide +kernel
theorem dX1_learn_39 : decode cX1_learn 39 = .ok (.goto (-16), 3) := by decide +kernel
theorem dX1_learn_42 : decode cX1_learn 42 = .ok (.aload_n 0, 1) := by decide +kernel
theorem dX1_learn_43 : decode cX1_learn 43 = .ok (.iconst 0, 1) := by decide +kernel
theorem dX1_learn_44 : decode cX1_learn 44 = .ok (.invokevirtual 51, 3) := by decide +kernel
theorem dX1_learn_47 : decode cX1_learn 47 = .ok (.iconst 0, 1) := by decide +kernel
theorem dX1_learn_48 : decode cX1_learn 48 = .ok (.istore_n 3, 1) := by decide +kernel
theorem dX1_learn_49 : decode cX1_learn 49 = .ok (.iload_n 3, 1) := by decide +kernel
theorem dX1_learn_50 : decode cX1_learn 50 = .ok (.iload_n 2, 1) := by decide +kernel
theorem dX1_learn_51 : decode cX1_learn 51 = .ok (.if_icmp .ge 91, 3) := by decide +kernel
theorem dX1_learn_54 : decode cX1_learn 54 = .ok (.iload_n 3, 1) := by decide +kernel
theorem dX1_learn_55 : decode cX1_learn 55 = .ok (.bipush 40, 2) := by decide +kernel
theorem dX1_learn_57 : decode cX1_learn 57 = .ok (.if_icmp .ge 85, 3) := by decide +kernel
theorem dX1_learn_60 : decode cX1_learn 60 = .ok (.aload_n 0, 1) := by decide +kernel
theorem dX1_learn_61 : decode cX1_learn 61 = .ok (.getfield 39, 3) := by decide +kernel
theorem dX1_learn_64 : decode cX1_learn 64 = .ok (.aload_n 0, 1) := by decide +kernel
theorem dX1_learn_65 : decode cX1_learn 65 = .ok (.getfield 12, 3) := by decide +kernel
theorem dX1_learn_68 : decode cX1_learn 68 = .ok (.iconst 0, 1) := by decide +kernel
theorem dX1_learn_69 : decode cX1_learn 69 = .ok (.invokevirtual 55, 3) := by decide +kernel
theorem dX1_learn_72 : decode cX1_learn 72 = .ok (.pop, 1) := by decide +kernel
theorem dX1_learn_73 : decode cX1_learn 73 = .ok (.aload_n 0, 1) := by decide +kernel
theorem dX1_learn_74 : decode cX1_learn 74 = .ok (.iload_n 3, 1) := by decide +kernel
theorem dX1_learn_75 : decode cX1_learn 75 = .ok (.iconst 1, 1) := by decide +kernel
theorem dX1_learn_76 : decode cX1_learn 76 = .ok (.iadd, 1) := by decide +kernel
theorem dX1_learn_77 : decode cX1_learn 77 = .ok (.invokevirtual 51, 3) := by decide +kernel
theorem dX1_learn_80 : decode cX1_learn 80 = .ok (.iconst 0, 1) := by decide +kernel
theorem dX1_learn_81 : decode cX1_learn 81 = .ok (.istore 4, 2) := by decide +kernel
theorem dX1_learn_83 : decode cX1_learn 83 = .ok (.iload 4, 2) := by decide +kernel
theorem dX1_learn_85 : decode cX1_learn 85 = .ok (.aload_n 0, 1) := by decide +kernel
theorem dX1_learn_86 : decode cX1_learn 86 = .ok (.getfield 30, 3) := by decide +kernel
theorem dX1_learn_89 : decode cX1_learn 89 = .ok (.getfield 59, 3) := by decide +kernel
theorem dX1_learn_92 : decode cX1_learn 92 = .ok (.if_icmp .ge 44, 3) := by decide +kernel
theorem dX1_learn_95 : decode cX1_learn 95 = .ok (.aload_n 0, 1) := by decide +kernel
theorem dX1_learn_96 : decode cX1_learn 96 = .ok (.getfield 26, 3) := by decide +kernel
theorem dX1_learn_99 : decode cX1_learn 99 = .ok (.iload 4, 2) := by decide +kernel
theorem dX1_learn_101 : decode cX1_learn 101 = .ok (.iaload, 1) := by decide +kernel
theorem dX1_learn_102 : decode cX1_learn 102 = .ok (.iconst (-1), 1) := by decide +kernel
theorem dX1_learn_103 : decode cX1_learn 103 = .ok (.if_icmp .ne 27, 3) := by decide +kernel
theorem dX1_learn_106 : decode cX1_learn 106 = .ok (.aload_n 0, 1) := by decide +kernel
theorem dX1_learn_107 : decode cX1_learn 107 = .ok (.getfield 39, 3) := by decide +kernel
theorem dX1_learn_110 : decode cX1_learn 110 = .ok (.getfield 65, 3) := by decide +kernel
theorem dX1_learn_113 : decode cX1_learn 113 = .ok (.iload 4, 2) := by decide +kernel
theorem dX1_learn_115 : decode cX1_learn 115 = .ok (.ishr, 1) := by decide +kernel
theorem dX1_learn_116 : decode cX1_learn 116 = .ok (.iconst 1, 1) := by decide +kernel
theorem dX1_learn_117 : decode cX1_learn 117 = .ok (.iand, 1) := by decide +kernel
theorem dX1_learn_118 : decode cX1_learn 118 = .ok (.iconst 1, 1) := by decide +kernel
theorem dX1_learn_119 : decode cX1_learn 119 = .ok (.if_icmp .ne 11, 3) := by decide +kernel
theorem dX1_learn_122 : decode cX1_learn 122 = .ok (.aload_n 0, 1) := by decide +kernel
theorem dX1_learn_123 : decode cX1_learn 123 = .ok (.getfield 26, 3) := by decide +kernel
theorem dX1_learn_126 : decode cX1_learn 126 = .ok (.iload 4, 2) := by decide +kernel
theorem dX1_learn_128 : decode cX1_learn 128 = .ok (.iload_n 3, 1) := by decide +kernel
theorem dX1_learn_129 : decode cX1_learn 129 = .ok (.iastore, 1) := by decide +kernel
theorem dX1_learn_130 : decode cX1_learn 130 = .ok (.iinc 4 1, 3) := by decide +kernel
theorem dX1_learn_133 : decode cX1_learn 133 = .ok (.goto (-50), 3) := by decide +kernel
theorem dX1_learn_136 : decode cX1_learn 136 = .ok (.iinc 3 1, 3) := by decide +kernel
theorem dX1_learn_139 : decode cX1_learn 139 = .ok (.goto (-90), 3) := by decide +kernel
theorem dX1_learn_142 : decode cX1_learn 142 = .ok (.return_, 1) := by decide +kernel
theorem dX1_write_0 : decode cX1_write 0 = .ok (.aload_n 0, 1) := by decide +kernel
theorem dX1_write_1 : decode cX1_write 1 = .ok (.getfield 12, 3) := by decide +kernel
theorem dX1_write_4 : decode cX1_write 4 = .ok (.getfield 68, 3) := by decide +kernel
theorem dX1_write_7 : decode cX1_write 7 = .ok (.iconst 0, 1) := by decide +kernel
theorem dX1_write_8 : decode cX1_write 8 = .ok (.aload_n 0, 1) := by decide +kernel
theorem dX1_write_9 : decode cX1_write 9 = .ok (.getfield 20, 3) := by decide +kernel
theorem dX1_write_12 : decode cX1_write 12 = .ok (.iload_n 1, 1) := by decide +kernel
theorem dX1_write_13 : decode cX1_write 13 = .ok (.aaload, 1) := by decide +kernel
theorem dX1_write_14 : decode cX1_write 14 = .ok (.iconst 0, 1) := by decide +kernel
theorem dX1_write_15 : decode cX1_write 15 = .ok (.bipush 64, 2) := by decide +kernel
theorem dX1_write_17 : decode cX1_write 17 = .ok (.invokestatic 70, 3) := by decide +kernel
theorem dX1_write_20 : decode cX1_write 20 = .ok (.aload_n 0, 1) := by decide +kernel
theorem dX1_write_21 : decode cX1_write 21 = .ok (.getfield 12, 3) := by decide +kernel
theorem dX1_write_24 : decode cX1_write 24 = .ok (.getfield 76, 3) := by decide +kernel
theorem dX1_write_27 : decode cX1_write 27 = .ok (.iconst 0, 1) := by decide +kernel
theorem dX1_write_28 : decode cX1_write 28 = .ok (.aload_n 0, 1) := by decide +kernel
theorem dX1_write_29 : decode cX1_write 29 = .ok (.getfield 23, 3) := by decide +kernel
theorem dX1_write_32 : decode cX1_write 32 = .ok (.iload_n 1, 1) := by decide +kernel
theorem dX1_write_33 : decode cX1_write 33 = .ok (.aaload, 1) := by decide +kernel
theorem dX1_write_34 : decode cX1_write 34 = .ok (.iconst 0, 1) := by decide +kernel
theorem dX1_write_35 : decode cX1_write 35 = .ok (.bipush 6, 2) := by decide +kernel
theorem dX1_write_37 : decode cX1_write 37 = .ok (.invokestatic 70, 3) := by decide +kernel
theorem dX1_write_40 : decode cX1_write 40 = .ok (.return_, 1) := by decide +kernel
theorem dX2_init_0 : decode cX2_init 0 = .ok (.aload_n 0, 1) := by decide +kernel
theorem dX2_init_1 : decode cX2_init 1 = .ok (.invokespecial 5, 3) := by decide +kernel
theorem dX2_init_4 : decode cX2_init 4 = .ok (.aload_n 0, 1) := by decide +kernel
theorem dX2_init_5 : decode cX2_init 5 = .ok (.bipush 103, 2) := by decide +kernel
theorem dX2_init_7 : decode cX2_init 7 = .ok (.newarray .int, 2) := by decide +kernel
theorem dX2_init_9 : decode cX2_init 9 = .ok (.putfield 11, 3) := by decide +kernel
theorem dX2_init_12 : decode cX2_init 12 = .ok (.return_, 1) := by decide +kernel
theorem dX2_write_0 : decode cX2_write 0 = .ok (.aload_n 0, 1) := by decide +kernel
theorem dX2_write_1 : decode cX2_write 1 = .ok (.iconst 0, 1) := by decide +kernel
theorem dX2_write_2 : decode cX2_write 2 = .ok (.putfield 15, 3) := by decide +kernel
theorem dX2_write_5 : decode cX2_write 5 = .ok (.aload_n 0, 1) := by decide +kernel
theorem dX2_write_6 : decode cX2_write 6 = .ok (.aload_n 2, 1) := by decide +kernel
theorem dX2_write_7 : decode cX2_write 7 = .ok (.getfield 19, 3) := by decide +kernel
theorem dX2_write_10 : decode cX2_write 10 = .ok (.sipush 256, 3) := by decide +kernel
theorem dX2_write_13 : decode cX2_write 13 = .ok (.idiv, 1) := by decide +kernel
theorem dX2_write_14 : decode cX2_write 14 = .ok (.invokevirtual 24, 3) := by decide +kernel
theorem dX2_write_17 : decode cX2_write 17 = .ok (.aload_n 0, 1) := by decide +kernel
theorem dX2_write_18 : decode cX2_write 18 = .ok (.aload_n 2, 1) := by decide +kernel
theorem dX2_write_19 : decode cX2_write 19 = .ok (.getfield 19, 3) := by decide +kernel
theorem dX2_write_22 : decode cX2_write 22 = .ok (.sipush 256, 3) := by decide +kernel
theorem dX2_write_25 : decode cX2_write 25 = .ok (.irem, 1) := by decide +kernel
theorem dX2_write_26 : decode cX2_write 26 = .ok (.invokevirtual 24, 3) := by decide +kernel
theorem dX2_write_29 : decode cX2_write 29 = .ok (.iconst 0, 1) := by decide +kernel
theorem dX2_write_30 : decode cX2_write 30 = .ok (.istore_n 3, 1) := by decide +kernel
theorem dX2_write_31 : decode cX2_write 31 = .ok (.iload_n 3, 1) := by decide +kernel
theorem dX2_write_32 : decode cX2_write 32 = .ok (.aload_n 1, 1) := by decide +kernel
theorem dX2_write_33 : decode cX2_write 33 = .ok (.getfield 28, 3) := by decide +kernel
theorem dX2_write_36 : decode cX2_write 36 = .ok (.if_icmp .ge 19, 3) := by decide +kernel
theorem dX2_write_39 : decode cX2_write 39 = .ok (.aload_n 0, 1) := by decide +kernel
theorem dX2_write_40 : decode cX2_write 40 = .ok (.aload_n 2, 1) := by decide +kernel
theorem dX2_write_41 : decode cX2_write 41 = .ok (.getfield 33, 3) := by decide +kernel
theorem dX2_write_44 : decode cX2_write 44 = .ok (.iload_n 3, 1) := by decide +kernel
theorem dX2_write_45 : decode cX2_write 45 = .ok (.iaload, 1) := by decide +kernel
theorem dX2_write_46 : decode cX2_write 46 = .ok (.invokevirtual 24, 3) := by decide +kernel
theorem dX2_write_49 : decode cX2_write 49 = .ok (.iinc 3 1, 3) := by decide +kernel
theorem dX2_write_52 : decode cX2_write 52 = .ok (.goto (-21), 3) := by decide +kernel
theorem dX2_write_55 : decode cX2_write 55 = .ok (.iconst 0, 1) := by decide +kernel
theorem dX2_write_56 : decode cX2_write 56 = .ok (.istore_n 3, 1) := by decide +kernel
theorem dX2_write_57 : decode cX2_write 57 = .ok (.iload_n 3, 1) := by decide +kernel
theorem dX2_write_58 : decode cX2_write 58 = .ok (.aload_n 1, 1) := by decide +kernel
theorem dX2_write_59 : decode cX2_write 59 = .ok (.getfield 36, 3) := by decide +kernel
theorem dX2_write_62 : decode cX2_write 62 = .ok (.if_icmp .ge 85, 3) := by decide +kernel
theorem dX2_write_65 : decode cX2_write 65 = .ok (.aload_n 0, 1) := by decide +kernel
theorem dX2_write_66 : decode cX2_write 66 = .ok (.aload_n 1, 1) := by decide +kernel
theorem dX2_write_67 : decode cX2_write 67 = .ok (.aload_n 2, 1) := by decide +kernel
theorem dX2_write_68 : decode cX2_write 68 = .ok (.getfield 39, 3) := by decide +kernel
theorem dX2_write_71 : decode cX2_write 71 = .ok (.iload_n 3, 1) := by decide +kernel
theorem dX2_write_72 : decode cX2_write 72 = .ok (.iaload, 1) := by decide +kernel
theorem dX2_write_73 : decode cX2_write 73 = .ok (.invokevirtual 42, 3) := by decide +kernel
theorem dX2_write_76 : decode cX2_write 76 = .ok (.invokevirtual 24, 3) := by decide +kernel
theorem dX2_write_79 : decode cX2_write 79 = .ok (.aload_n 0, 1) := by decide +kernel
theorem dX2_write_80 : decode cX2_write 80 = .ok (.aload_n 1, 1) := by decide +kernel
theorem dX2_write_81 : decode cX2_write 81 = .ok (.aload_n 2, 1) := by decide +kernel
theorem dX2_write_82 : decode cX2_write 82 = .ok (.getfield 39, 3) := by decide +kernel
theorem dX2_write_85 : decode cX2_write 85 = .ok (.iload_n 3, 1) := by decide +kernel
theorem dX2_write_86 : decode cX2_write 86 = .ok (.iaload, 1) := by decide +kernel
theorem dX2_write_87 : decode cX2_write 87 = .ok (.invokevirtual 46, 3) := by decide +kernel
theorem dX2_write_90 : decode cX2_write 90 = .ok (.invokevirtual 24, 3) := by decide +kernel
theorem dX2_write_93 : decode cX2_write 93 = .ok (.aload_n 0, 1) := by decide +kernel
theorem dX2_write_94 : decode cX2_write 94 = .ok (.aload_n 2, 1) := by decide +kernel
theorem dX2_write_95 : decode cX2_write 95 = .ok (.getfield 49, 3) := by decide +kernel
theorem dX2_write_98 : decode cX2_write 98 = .ok (.iload_n 3, 1) := by decide +kernel
theorem dX2_write_99 : decode cX2_write 99 = .ok (.iaload, 1) := by decide +kernel
theorem dX2_write_100 : decode cX2_write 100 = .ok (.invokevirtual 24, 3) := by decide +kernel
theorem dX2_write_103 : decode cX2_write 103 = .ok (.aload_n 0, 1) := by decide +kernel
theorem dX2_write_104 : decode cX2_write 104 = .ok (.aload_n 2, 1) := by decide +kernel
theorem dX2_write_105 : decode cX2_write 105 = .ok (.getfield 52, 3) := by decide +kernel
theorem dX2_write_108 : decode cX2_write 108 = .ok (.iload_n 3, 1) := by decide +kernel
theorem dX2_write_109 : decode cX2_write 109 = .ok (.iaload, 1) := by decide +kernel
theorem dX2_write_110 : decode cX2_write 110 = .ok (.invokevirtual 24, 3) := by decide +kernel
theorem dX2_write_113 : decode cX2_write 113 = .ok (.aload_n 0, 1) := by decide +kernel
theorem dX2_write_114 : decode cX2_write 114 = .ok (.aload_n 2, 1) := by decide +kernel
theorem dX2_write_115 : decode cX2_write 115 = .ok (.getfield 55, 3) := by decide +kernel
theorem dX2_write_118 : decode cX2_write 118 = .ok (.iload_n 3, 1) := by decide +kernel
theorem dX2_write_119 : decode cX2_write 119 = .ok (.iaload, 1) := by decide +kernel
theorem dX2_write_120 : decode cX2_write 120 = .ok (.sipush 256, 3) := by decide +kernel
theorem dX2_write_123 : decode cX2_write 123 = .ok (.idiv, 1) := by decide +kernel
theorem dX2_write_124 : decode cX2_write 124 = .ok (.invokevirtual 24, 3) := by decide +kernel
theorem dX2_write_127 : decode cX2_write 127 = .ok (.aload_n 0, 1) := by decide +kernel
theorem dX2_write_128 : decode cX2_write 128 = .ok (.aload_n 2, 1) := by decide +kernel
theorem dX2_write_129 : decode cX2_write 129 = .ok (.getfield 55, 3) := by decide +kernel
theorem dX2_write_132 : decode cX2_write 132 = .ok (.iload_n 3, 1) := by decide +kernel
theorem dX2_write_133 : decode cX2_write 133 = .ok (.iaload, 1) := by decide +kernel
theorem dX2_write_134 : decode cX2_write 134 = .ok (.sipush 256, 3) := by decide +kernel
theorem dX2_write_137 : decode cX2_write 137 = .ok (.irem, 1) := by decide +kernel
theorem dX2_write_138 : decode cX2_write 138 = .ok (.invokevirtual 24, 3) := by decide +kernel
theorem dX2_write_141 : decode cX2_write 141 = .ok (.iinc 3 1, 3) := by decide +kernel
theorem dX2_write_144 : decode cX2_write 144 = .ok (.goto (-87), 3) := by decide +kernel
theorem dX2_write_147 : decode cX2_write 147 = .ok (.aload_n 0, 1) := by decide +kernel
theorem dX2_write_148 : decode cX2_write 148 = .ok (.aload_n 0, 1) := by decide +kernel
theorem dX2_write_149 : decode cX2_write 149 = .ok (.getfield 11, 3) := by decide +kernel
theorem dX2_write_152 : decode cX2_write 152 = .ok (.aload_n 0, 1) := by decide +kernel
theorem dX2_write_153 : decode cX2_write 153 = .ok (.getfield 15, 3) := by decide +kernel
theorem dX2_write_156 : decode cX2_write 156 = .ok (.invokestatic 58, 3) := by decide +kernel
theorem dX2_write_159 : decode cX2_write 159 = .ok (.invokevirtual 24, 3) := by decide +kernel
theorem dX2_write_162 : decode cX2_write 162 = .ok (.return_, 1) := by decide +kernel
theorem dX2_add_0 : decode cX2_add 0 = .ok (.aload_n 0, 1) := by decide +kernel
theorem dX2_add_1 : decode cX2_add 1 = .ok (.getfield 15, 3) := by decide +kernel
theorem dX2_add_4 : decode cX2_add 4 = .ok (.bipush 103, 2) := by decide +kernel
theorem dX2_add_6 : decode cX2_add 6 = .ok (.if_icmp .ge 23, 3) := by decide +kernel
theorem dX2_add_9 : decode cX2_add 9 = .ok (.aload_n 0, 1) := by decide +kernel
theorem dX2_add_10 : decode cX2_add 10 = .ok (.getfield 11, 3) := by decide +kernel
theorem dX2_add_13 : decode cX2_add 13 = .ok (.aload_n 0, 1) := by decide +kernel
theorem dX2_add_14 : decode cX2_add 14 = .ok (.getfield 15, 3) := by decide +kernel
theorem dX2_add_17 : decode cX2_add 17 = .ok (.iload_n 1, 1) := by decide +kernel
theorem dX2_add_18 : decode cX2_add 18 = .ok (.iastore, 1) := by decide +kernel
theorem dX2_add_19 : decode cX2_add 19 = .ok (.aload_n 0, 1) := by decide +kernel
theorem dX2_add_20 : decode cX2_add 20 = .ok (.dup, 1) := by decide +kernel
theorem dX2_add_21 : decode cX2_add 21 = .ok (.getfield 15, 3) := by decide +kernel
theorem dX2_add_24 : decode cX2_add 24 = .ok (.iconst 1, 1) := by decide +kernel
theorem dX2_add_25 : decode cX2_add 25 = .ok (.iadd, 1) := by decide +kernel
theorem dX2_add_26 : decode cX2_add 26 = .ok (.putfield 15, 3) := by decide +kernel
theorem dX2_add_29 : decode cX2_add 29 = .ok (.return_, 1) := by decide +kernel
theorem dX2_check_0 : decode cX2_check 0 = .ok (.sipush 223, 3) := by decide +kernel
theorem dX2_check_3 : decode cX2_check 3 = .ok (.istore_n 2, 1) := by decide +kernel
theorem dX2_check_4 : decode cX2_check 4 = .ok (.iconst 0, 1) := by decide +kernel
theorem dX2_check_5 : decode cX2_check 5 = .ok (.istore_n 3, 1) := by decide +kernel
theorem dX2_check_6 : decode cX2_check 6 = .ok (.iload_n 3, 1) := by decide +kernel
theorem dX2_check_7 : decode cX2_check 7 = .ok (.iload_n 1, 1) := by decide +kernel
theorem dX2_check_8 : decode cX2_check 8 = .ok (.if_icmp .ge 27, 3) := by decide +kernel
theorem dX2_check_11 : decode cX2_check 11 = .ok (.iload_n 3, 1) := by decide +kernel
theorem dX2_check_12 : decode cX2_check 12 = .ok (.aload_n 0, 1) := by decide +kernel
theorem dX2_check_13 : decode cX2_check 13 = .ok (.arraylength, 1) := by decide +kernel
theorem dX2_check_14 : decode cX2_check 14 = .ok (.if_icmp .ge 21, 3) := by decide +kernel
theorem dX2_check_17 : decode cX2_check 17 = .ok (.iconst 5, 1) := by decide +kernel
theorem dX2_check_18 : decode cX2_check 18 = .ok (.iload_n 2, 1) := by decide +kernel
theorem dX2_check_19 : decode cX2_check 19 = .ok (.imul, 1) := by decide +kernel
theorem dX2_check_20 : decode cX2_check 20 = .ok (.aload_n 0, 1) := by decide +kernel
theorem dX2_check_21 : decode cX2_check 21 = .ok (.iload_n 3, 1) := by decide +kernel
theorem dX2_check_22 : decode cX2_check 22 = .ok (.iaload, 1) := by decide +kernel
theorem dX2_check_23 : decode cX2_check 23 = .ok (.iadd, 1) := by decide +kernel
theorem dX2_check_24 : decode cX2_check 24 = .ok (.sipush 251, 3) := by decide +kernel
theorem dX2_check_27 : decode cX2_check 27 = .ok (.irem, 1) := by decide +kernel
theorem dX2_check_28 : decode cX2_check 28 = .ok (.istore_n 2, 1) := by decide +kernel
theorem dX2_check_29 : decode cX2_check 29 = .ok (.iinc 3 1, 3) := by decide +kernel
theorem dX2_check_32 : decode cX2_check 32 = .ok (.goto (-26), 3) := by decide +kernel
theorem dX2_check_35 : decode cX2_check 35 = .ok (.iload_n 2, 1) := by decide +kernel
theorem dX2_check_36 : decode cX2_check 36 = .ok (.ireturn, 1) := by decide +kernel
theorem dX2_restore_0 : decode cX2_restore 0 = .ok (.iconst 2, 1) := by decide +kernel
theorem dX2_restore_1 : decode cX2_restore 1 = .ok (.aload_n 2, 1) := by decide +kernel
theorem dX2_restore_2 : decode cX2_restore 2 = .ok (.getfield 28, 3) := by decide +kernel
theorem dX2_restore_5 : decode cX2_restore 5 = .ok (.iadd, 1) := by decide +kernel
theorem dX2_restore_6 : decode cX2_restore 6 = .ok (.istore 4, 2) := by decide +kernel
theorem dX2_restore_8 : decode cX2_restore 8 = .ok (.iload 4, 2) := by decide +kernel
theorem dX2_restore_10 : decode cX2_restore 10 = .ok (.aload_n 2, 1) := by decide +kernel
theorem dX2_restore_11 : decode cX2_restore 11 = .ok (.getfield 36, 3) := by decide +kernel
theorem dX2_restore_14 : decode cX2_restore 14 = .ok (.bipush 6, 2) := by decide +kernel
theorem dX2_restore_16 : decode cX2_restore 16 = .ok (.imul, 1) := by decide +kernel
theorem dX2_restore_17 : decode cX2_restore 17 = .ok (.iadd, 1) := by decide +kernel
theorem dX2_restore_18 : decode cX2_restore 18 = .ok (.istore 5, 2) := by decide +kernel
theorem dX2_restore_20 : decode cX2_restore 20 = .ok (.iload_n 1, 1) := by decide +kernel
theorem dX2_restore_21 : decode cX2_restore 21 = .ok (.iload 5, 2) := by decide +kernel
theorem dX2_restore_23 : decode cX2_restore 23 = .ok (.iconst 1, 1) := by decide +kernel
theorem dX2_restore_24 : decode cX2_restore 24 = .ok (.iadd, 1) := by decide +kernel
theorem dX2_restore_25 : decode cX2_restore 25 = .ok (.if_icmp .ne 22, 3) := by decide +kernel
theorem dX2_restore_28 : decode cX2_restore 28 = .ok (.iload_n 1, 1) := by decide +kernel
theorem dX2_restore_29 : decode cX2_restore 29 = .ok (.aload_n 0, 1) := by decide +kernel
theorem dX2_restore_30 : decode cX2_restore 30 = .ok (.arraylength, 1) := by decide +kernel
theorem dX2_restore_31 : decode cX2_restore 31 = .ok (.if_icmp .gt 16, 3) := by decide +kernel
theorem dX2_restore_34 : decode cX2_restore 34 = .ok (.aload_n 0, 1) := by decide +kernel
theorem dX2_restore_35 : decode cX2_restore 35 = .ok (.iload 5, 2) := by decide +kernel
theorem dX2_restore_37 : decode cX2_restore 37 = .ok (.iaload, 1) := by decide +kernel
theorem dX2_restore_38 : decode cX2_restore 38 = .ok (.aload_n 0, 1) := by decide +kernel
theorem dX2_restore_39 : decode cX2_restore 39 = .ok (.iload 5, 2) := by decide +kernel
theorem dX2_restore_41 : decode cX2_restore 41 = .ok (.invokestatic 58, 3) := by decide +kernel
theorem dX2_restore_44 : decode cX2_restore 44 = .ok (.if_icmp .eq 5, 3) := by decide +kernel
theorem dX2_restore_47 : decode cX2_restore 47 = .ok (.iconst 0, 1) := by decide +kernel
theorem dX2_restore_48 : decode cX2_restore 48 = .ok (.ireturn, 1) := by decide +kernel
theorem dX2_restore_49 : decode cX2_restore 49 = .ok (.aload_n 3, 1) := by decide +kernel
theorem dX2_restore_50 : decode cX2_restore 50 = .ok (.iconst 0, 1) := by decide +kernel
theorem dX2_restore_51 : decode cX2_restore 51 = .ok (.putfield 62, 3) := by decide +kernel
theorem dX2_restore_54 : decode cX2_restore 54 = .ok (.aload_n 3, 1) := by decide +kernel
theorem dX2_restore_55 : decode cX2_restore 55 = .ok (.aload_n 0, 1) := by decide +kernel
theorem dX2_restore_56 : decode cX2_restore 56 = .ok (.iconst 0, 1) := by decide +kernel
theorem dX2_restore_57 : decode cX2_restore 57 = .ok (.iaload, 1) := by decide +kernel
theorem dX2_restore_58 : decode cX2_restore 58 = .ok (.sipush 256, 3) := by decide +kernel
theorem dX2_restore_61 : decode cX2_restore 61 = .ok (.imul, 1) := by decide +kernel
theorem dX2_restore_62 : decode cX2_restore 62 = .ok (.aload_n 0, 1) := by decide +kernel
theorem dX2_restore_63 : decode cX2_restore 63 = .ok (.iconst 1, 1) := by decide +kernel
theorem dX2_restore_64 : decode cX2_restore 64 = .ok (.iaload, 1) := by decide +kernel
theorem dX2_restore_65 : decode cX2_restore 65 = .ok (.iadd, 1) := by decide +kernel
theorem dX2_restore_66 : decode cX2_restore 66 = .ok (.putfield 19, 3) := by decide +kernel
theorem dX2_restore_69 : decode cX2_restore 69 = .ok (.aload_n 3, 1) := by decide +kernel
theorem dX2_restore_70 : decode cX2_restore 70 = .ok (.getfield 19, 3) := by decide +kernel
theorem dX2_restore_73 : decode cX2_restore 73 = .ok (.sipush 999, 3) := by decide +kernel
theorem dX2_restore_76 : decode cX2_restore 76 = .ok (.if_icmp .le 5, 3) := by decide +kernel
theorem dX2_restore_79 : decode cX2_restore 79 = .ok (.iconst 0, 1) := by decide +kernel
theorem dX2_restore_80 : decode cX2_restore 80 = .ok (.ireturn, 1) := by decide +kernel
theorem dX2_restore_81 : decode cX2_restore 81 = .ok (.iconst 0, 1) := by decide +kernel
theorem dX2_restore_82 : decode cX2_restore 82 = .ok (.istore 6, 2) := by decide +kernel
theorem dX2_restore_84 : decode cX2_restore 84 = .ok (.iload 6, 2) := by decide +kernel
theorem dX2_restore_86 : decode cX2_restore 86 = .ok (.aload_n 2, 1) := by decide +kernel
theorem dX2_restore_87 : decode cX2_restore 87 = .ok (.getfield 28, 3) := by decide +kernel
theorem dX2_restore_90 : decode cX2_restore 90 = .ok (.if_icmp .ge 36, 3) := by decide +kernel
theorem dX2_restore_93 : decode cX2_restore 93 = .ok (.aload_n 3, 1) := by decide +kernel
theorem dX2_restore_94 : decode cX2_restore 94 = .ok (.getfield 33, 3) := by decide +kernel
theorem dX2_restore_97 : decode cX2_restore 97 = .ok (.iload 6, 2) := by decide +kernel
theorem dX2_restore_99 : decode cX2_restore 99 = .ok (.aload_n 0, 1) := by decide +kernel
theorem dX2_restore_100 : decode cX2_restore 100 = .ok (.iconst 2, 1) := by decide +kernel
theorem dX2_restore_101 : decode cX2_restore 101 = .ok (.iload 6, 2) := by decide +kernel
theorem dX2_restore_103 : decode cX2_restore 103 = .ok (.iadd, 1) := by decide +kernel
theorem dX2_restore_104 : decode cX2_restore 104 = .ok (.iaload, 1) := by decide +kernel
theorem dX2_restore_105 : decode cX2_restore 105 = .ok (.iastore, 1) := by decide +kernel
theorem dX2_restore_106 : decode cX2_restore 106 = .ok (.aload_n 3, 1) := by decide +kernel
theorem dX2_restore_107 : decode cX2_restore 107 = .ok (.getfield 33, 3) := by decide +kernel
theorem dX2_restore_110 : decode cX2_restore 110 = .ok (.iload 6, 2) := by decide +kernel
theorem dX2_restore_112 : decode cX2_restore 112 = .ok (.iaload, 1) := by decide +kernel
theorem dX2_restore_113 : decode cX2_restore 113 = .ok (.bipush 99, 2) := by decide +kernel
theorem dX2_restore_115 : decode cX2_restore 115 = .ok (.if_icmp .le 5, 3) := by decide +kernel
theorem dX2_restore_118 : decode cX2_restore 118 = .ok (.iconst 0, 1) := by decide +kernel
theorem dX2_restore_119 : decode cX2_restore 119 = .ok (.ireturn, 1) := by decide +kernel
theorem dX2_restore_120 : decode cX2_restore 120 = .ok (.iinc 6 1, 3) := by decide +kernel
theorem dX2_restore_123 : decode cX2_restore 123 = .ok (.goto (-39), 3) := by decide +kernel
theorem dX2_restore_126 : decode cX2_restore 126 = .ok (.iconst 0, 1) := by decide +kernel
theorem dX2_restore_127 : decode cX2_restore 127 = .ok (.istore 6, 2) := by decide +kernel
theorem dX2_restore_129 : decode cX2_restore 129 = .ok (.iload 6, 2) := by decide +kernel
theorem dX2_restore_131 : decode cX2_restore 131 = .ok (.aload_n 2, 1) := by decide +kernel
theorem dX2_restore_132 : decode cX2_restore 132 = .ok (.getfield 36, 3) := by decide +kernel
theorem dX2_restore_135 : decode cX2_restore 135 = .ok (.if_icmp .ge 30, 3) := by decide +kernel
theorem dX2_restore_138 : decode cX2_restore 138 = .ok (.aload_n 0, 1) := by decide +kernel
theorem dX2_restore_139 : decode cX2_restore 139 = .ok (.iload 4, 2) := by decide +kernel
theorem dX2_restore_141 : decode cX2_restore 141 = .ok (.iload 6, 2) := by decide +kernel
theorem dX2_restore_143 : decode cX2_restore 143 = .ok (.bipush 6, 2) := by decide +kernel
theorem dX2_restore_145 : decode cX2_restore 145 = .ok (.imul, 1) := by decide +kernel
theorem dX2_restore_146 : decode cX2_restore 146 = .ok (.iadd, 1) := by decide +kernel
theorem dX2_restore_147 : decode cX2_restore 147 = .ok (.aload_n 2, 1) := by decide +kernel
theorem dX2_restore_148 : decode cX2_restore 148 = .ok (.aload_n 3, 1) := by decide +kernel
theorem dX2_restore_149 : decode cX2_restore 149 = .ok (.iload 6, 2) := by decide +kernel
theorem dX2_restore_151 : decode cX2_restore 151 = .ok (.invokestatic 65, 3) := by decide +kernel
theorem dX2_restore_154 : decode cX2_restore 154 = .ok (.ifCond .ne 5, 3) := by decide +kernel
theorem dX2_restore_157 : decode cX2_restore 157 = .ok (.iconst 0, 1) := by decide +kernel
theorem dX2_restore_158 : decode cX2_restore 158 = .ok (.ireturn, 1) := by decide +kernel
theorem dX2_restore_159 : decode cX2_restore 159 = .ok (.iinc 6 1, 3) := by decide +kernel
theorem dX2_restore_162 : decode cX2_restore 162 = .ok (.goto (-33), 3) := by decide +kernel
theorem dX2_restore_165 : decode cX2_restore 165 = .ok (.iconst 1, 1) := by decide +kernel
theorem dX2_restore_166 : decode cX2_restore 166 = .ok (.ireturn, 1) := by decide +kernel
theorem dX2_restorePerson_0 : decode cX2_restorePerson 0 = .ok (.aload_n 2, 1) := by decide +kernel
theorem dX2_restorePerson_1 : decode cX2_restorePerson 1 = .ok (.aload_n 0, 1) := by decide +kernel
theorem dX2_restorePerson_2 : decode cX2_restorePerson 2 = .ok (.iload_n 1, 1) := by decide +kernel
theorem dX2_restorePerson_3 : decode cX2_restorePerson 3 = .ok (.iaload, 1) := by decide +kernel
theorem dX2_restorePerson_4 : decode cX2_restorePerson 4 = .ok (.aload_n 0, 1) := by decide +kernel
theorem dX2_restorePerson_5 : decode cX2_restorePerson 5 = .ok (.iload_n 1, 1) := by decide +kernel
theorem dX2_restorePerson_6 : decode cX2_restorePerson 6 = .ok (.iconst 1, 1) := by decide +kernel
theorem dX2_restorePerson_7 : decode cX2_restorePerson 7 = .ok (.iadd, 1) := by decide +kernel
theorem dX2_restorePerson_8 : decode cX2_restorePerson 8 = .ok (.iaload, 1) := by decide +kernel
theorem dX2_restorePerson_9 : decode cX2_restorePerson 9 = .ok (.invokevirtual 69, 3) := by decide +kernel
theorem dX2_restorePerson_12 : decode cX2_restorePerson 12 = .ok (.istore 5, 2) := by decide +kernel
theorem dX2_restorePerson_14 : decode cX2_restorePerson 14 = .ok (.aload_n 0, 1) := by decide +kernel
theorem dX2_restorePerson_15 : decode cX2_restorePerson 15 = .ok (.iload_n 1, 1) := by decide +kernel
theorem dX2_restorePerson_16 : decode cX2_restorePerson 16 = .ok (.iconst 3, 1) := by decide +kernel
theorem dX2_restorePerson_17 : decode cX2_restorePerson 17 = .ok (.iadd, 1) := by decide +kernel
theorem dX2_restorePerson_18 : decode cX2_restorePerson 18 = .ok (.iaload, 1) := by decide +kernel
theorem dX2_restorePerson_19 : decode cX2_restorePerson 19 = .ok (.istore 6, 2) := by decide +kernel
theorem dX2_restorePerson_21 : decode cX2_restorePerson 21 = .ok (.aload_n 0, 1) := by decide +kernel
theorem dX2_restorePerson_22 : decode cX2_restorePerson 22 = .ok (.iload_n 1, 1) := by decide +kernel
theorem dX2_restorePerson_23 : decode cX2_restorePerson 23 = .ok (.iconst 4, 1) := by decide +kernel
theorem dX2_restorePerson_24 : decode cX2_restorePerson 24 = .ok (.iadd, 1) := by decide +kernel
theorem dX2_restorePerson_25 : decode cX2_restorePerson 25 = .ok (.iaload, 1) := by decide +kernel
theorem dX2_restorePerson_26 : decode cX2_restorePerson 26 = .ok (.sipush 256, 3) := by decide +kernel
theorem dX2_restorePerson_29 : decode cX2_restorePerson 29 = .ok (.imul, 1) := by decide +kernel
theorem dX2_restorePerson_30 : decode cX2_restorePerson 30 = .ok (.aload_n 0, 1) := by decide +kernel
theorem dX2_restorePerson_31 : decode cX2_restorePerson 31 = .ok (.iload_n 1, 1) := by decide +kernel
theorem dX2_restorePerson_32 : decode cX2_restorePerson 32 = .ok (.iconst 5, 1) := by decide +kernel
theorem dX2_restorePerson_33 : decode cX2_restorePerson 33 = .ok (.iadd, 1) := by decide +kernel
theorem dX2_restorePerson_34 : decode cX2_restorePerson 34 = .ok (.iaload, 1) := by decide +kernel
theorem dX2_restorePerson_35 : decode cX2_restorePerson 35 = .ok (.iadd, 1) := by decide +kernel
theorem dX2_restorePerson_36 : decode cX2_restorePerson 36 = .ok (.istore 7, 2) := by decide +kernel
theorem dX2_restorePerson_38 : decode cX2_restorePerson 38 = .ok (.aload_n 3, 1) := by decide +kernel
theorem dX2_restorePerson_39 : decode cX2_restorePerson 39 = .ok (.getfield 39, 3) := by decide +kernel
theorem dX2_restorePerson_42 : decode cX2_restorePerson 42 = .ok (.iload 4, 2) := by decide +kernel
theorem dX2_restorePerson_44 : decode cX2_restorePerson 44 = .ok (.iload 5, 2) := by decide +kernel
theorem dX2_restorePerson_46 : decode cX2_restorePerson 46 = .ok (.iastore, 1) := by decide +kernel
theorem dX2_restorePerson_47 : decode cX2_restorePerson 47 = .ok (.aload_n 3, 1) := by decide +kernel
theorem dX2_restorePerson_48 : decode cX2_restorePerson 48 = .ok (.getfield 49, 3) := by decide +kernel
theorem dX2_restorePerson_51 : decode cX2_restorePerson 51 = .ok (.iload 4, 2) := by decide +kernel
theorem dX2_restorePerson_53 : decode cX2_restorePerson 53 = .ok (.aload_n 0, 1) := by decide +kernel
theorem dX2_restorePerson_54 : decode cX2_restorePerson 54 = .ok (.iload_n 1, 1) := by decide +kernel
theorem dX2_restorePerson_55 : decode cX2_restorePerson 55 = .ok (.iconst 2, 1) := by decide +kernel
theorem dX2_restorePerson_56 : decode cX2_restorePerson 56 = .ok (.iadd, 1) := by decide +kernel
theorem dX2_restorePerson_57 : decode cX2_restorePerson 57 = .ok (.iaload, 1) := by decide +kernel
theorem dX2_restorePerson_58 : decode cX2_restorePerson 58 = .ok (.iastore, 1) := by decide +kernel
theorem dX2_restorePerson_59 : decode cX2_restorePerson 59 = .ok (.aload_n 3, 1) := by decide +kernel
theorem dX2_restorePerson_60 : decode cX2_restorePerson 60 = .ok (.getfield 52, 3) := by decide +kernel
theorem dX2_restorePerson_63 : decode cX2_restorePerson 63 = .ok (.iload 4, 2) := by decide +kernel
theorem dX2_restorePerson_65 : decode cX2_restorePerson 65 = .ok (.iload 6, 2) := by decide +kernel
theorem dX2_restorePerson_67 : decode cX2_restorePerson 67 = .ok (.iastore, 1) := by decide +kernel
theorem dX2_restorePerson_68 : decode cX2_restorePerson 68 = .ok (.aload_n 3, 1) := by decide +kernel
theorem dX2_restorePerson_69 : decode cX2_restorePerson 69 = .ok (.getfield 55, 3) := by decide +kernel
theorem dX2_restorePerson_72 : decode cX2_restorePerson 72 = .ok (.iload 4, 2) := by decide +kernel
theorem dX2_restorePerson_74 : decode cX2_restorePerson 74 = .ok (.iload 7, 2) := by decide +kernel
theorem dX2_restorePerson_76 : decode cX2_restorePerson 76 = .ok (.iastore, 1) := by decide +kernel
theorem dX2_restorePerson_77 : decode cX2_restorePerson 77 = .ok (.iload 5, 2) := by decide +kernel
theorem dX2_restorePerson_79 : decode cX2_restorePerson 79 = .ok (.iconst (-1), 1) := by decide +kernel
theorem dX2_restorePerson_80 : decode cX2_restorePerson 80 = .ok (.if_icmp .eq 38, 3) := by decide +kernel
theorem dX2_restorePerson_83 : decode cX2_restorePerson 83 = .ok (.aload_n 0, 1) := by decide +kernel
theorem dX2_restorePerson_84 : decode cX2_restorePerson 84 = .ok (.iload_n 1, 1) := by decide +kernel
theorem dX2_restorePerson_85 : decode cX2_restorePerson 85 = .ok (.iconst 2, 1) := by decide +kernel
theorem dX2_restorePerson_86 : decode cX2_restorePerson 86 = .ok (.iadd, 1) := by decide +kernel
theorem dX2_restorePerson_87 : decode cX2_restorePerson 87 = .ok (.iaload, 1) := by decide +kernel
theorem dX2_restorePerson_88 : decode cX2_restorePerson 88 = .ok (.bipush 8, 2) := by decide +kernel
theorem dX2_restorePerson_90 : decode cX2_restorePerson 90 = .ok (.if_icmp .gt 28, 3) := by decide +kernel
theorem dX2_restorePerson_93 : decode cX2_restorePerson 93 = .ok (.iload 6, 2) := by decide +kernel
theorem dX2_restorePerson_95 : decode cX2_restorePerson 95 = .ok (.iconst 1, 1) := by decide +kernel
theorem dX2_restorePerson_96 : decode cX2_restorePerson 96 = .ok (.if_icmp .lt 22, 3) := by decide +kernel
theorem dX2_restorePerson_99 : decode cX2_restorePerson 99 = .ok (.iload 6, 2) := by decide +kernel
theorem dX2_restorePerson_101 : decode cX2_restorePerson 101 = .ok (.bipush 99, 2) := by decide +kernel
theorem dX2_restorePerson_103 : decode cX2_restorePerson 103 = .ok (.if_icmp .gt 15, 3) := by decide +kernel
theorem dX2_restorePerson_106 : decode cX2_restorePerson 106 = .ok (.iload 7, 2) := by decide +kernel
theorem dX2_restorePerson_108 : decode cX2_restorePerson 108 = .ok (.sipush 999, 3) := by decide +kernel
theorem dX2_restorePerson_111 : decode cX2_restorePerson 111 = .ok (.if_icmp .gt 7, 3) := by decide +kernel
theorem dX2_restorePerson_114 : decode cX2_restorePerson 114 = .ok (.iconst 1, 1) := by decide +kernel
theorem dX2_restorePerson_115 : decode cX2_restorePerson 115 = .ok (.goto 4, 3) := by decide +kernel
theorem dX2_restorePerson_118 : decode cX2_restorePerson 118 = .ok (.iconst 0, 1) := by decide +kernel
theorem dX2_restorePerson_119 : decode cX2_restorePerson 119 = .ok (.ireturn, 1) := by decide +kernel
theorem dX3_init_0 : decode cX3_init 0 = .ok (.aload_n 0, 1) := by decide +kernel
theorem dX3_init_1 : decode cX3_init 1 = .ok (.invokespecial 3, 3) := by decide +kernel
theorem dX3_init_4 : decode cX3_init 4 = .ok (.aload_n 0, 1) := by decide +kernel
theorem dX3_init_5 : decode cX3_init 5 = .ok (.bipush 64, 2) := by decide +kernel
theorem dX3_init_7 : decode cX3_init 7 = .ok (.newarray .int, 2) := by decide +kernel
theorem dX3_init_9 : decode cX3_init 9 = .ok (.putfield 9, 3) := by decide +kernel
theorem dX3_init_12 : decode cX3_init 12 = .ok (.aload_n 0, 1) := by decide +kernel
theorem dX3_init_13 : decode cX3_init 13 = .ok (.bipush 36, 2) := by decide +kernel
theorem dX3_init_15 : decode cX3_init 15 = .ok (.newarray .int, 2) := by decide +kernel
theorem dX3_init_17 : decode cX3_init 17 = .ok (.putfield 15, 3) := by decide +kernel
theorem dX3_init_20 : decode cX3_init 20 = .ok (.aload_n 0, 1) := by decide +kernel
theorem dX3_init_21 : decode cX3_init 21 = .ok (.bipush 6, 2) := by decide +kernel
theorem dX3_init_23 : decode cX3_init 23 = .ok (.newarray .int, 2) := by decide +kernel
theorem dX3_init_25 : decode cX3_init 25 = .ok (.putfield 18, 3) := by decide +kernel
theorem dX3_init_28 : decode cX3_init 28 = .ok (.aload_n 0, 1) := by decide +kernel
theorem dX3_init_29 : decode cX3_init 29 = .ok (.bipush 6, 2) := by decide +kernel
theorem dX3_init_31 : decode cX3_init 31 = .ok (.newarray .int, 2) := by decide +kernel
theorem dX3_init_33 : decode cX3_init 33 = .ok (.putfield 21, 3) := by decide +kernel
theorem dX3_init_36 : decode cX3_init 36 = .ok (.aload_n 0, 1) := by decide +kernel
theorem dX3_init_37 : decode cX3_init 37 = .ok (.bipush 6, 2) := by decide +kernel
theorem dX3_init_39 : decode cX3_init 39 = .ok (.newarray .int, 2) := by decide +kernel
theorem dX3_init_41 : decode cX3_init 41 = .ok (.putfield 24, 3) := by decide +kernel
theorem dX3_init_44 : decode cX3_init 44 = .ok (.aload_n 0, 1) := by decide +kernel
theorem dX3_init_45 : decode cX3_init 45 = .ok (.bipush 6, 2) := by decide +kernel
theorem dX3_init_47 : decode cX3_init 47 = .ok (.newarray .int, 2) := by decide +kernel
theorem dX3_init_49 : decode cX3_init 49 = .ok (.putfield 27, 3) := by decide +kernel
theorem dX3_init_52 : decode cX3_init 52 = .ok (.aload_n 0, 1) := by decide +kernel
theorem dX3_init_53 : decode cX3_init 53 = .ok (.new 30, 3) := by decide +kernel
theorem dX3_init_56 : decode cX3_init 56 = .ok (.dup, 1) := by decide +kernel
theorem dX3_init_57 : decode cX3_init 57 = .ok (.invokespecial 32, 3) := by decide +kernel
theorem dX3_init_60 : decode cX3_init 60 = .ok (.putfield 33, 3) := by decide +kernel
theorem dX3_init_63 : decode cX3_init 63 = .ok (.aload_n 0, 1) := by decide +kernel
theorem dX3_init_64 : decode cX3_init 64 = .ok (.new 30, 3) := by decide +kernel
theorem dX3_init_67 : decode cX3_init 67 = .ok (.dup, 1) := by decide +kernel
theorem dX3_init_68 : decode cX3_init 68 = .ok (.invokespecial 32, 3) := by decide +kernel
theorem dX3_init_71 : decode cX3_init 71 = .ok (.putfield 37, 3) := by decide +kernel
theorem dX3_init_74 : decode cX3_init 74 = .ok (.aload_n 0, 1) := by decide +kernel
theorem dX3_init_75 : decode cX3_init 75 = .ok (.new 30, 3) := by decide +kernel
theorem dX3_init_78 : decode cX3_init 78 = .ok (.dup, 1) := by decide +kernel
theorem dX3_init_79 : decode cX3_init 79 = .ok (.invokespecial 32, 3) := by decide +kernel
theorem dX3_init_82 : decode cX3_init 82 = .ok (.putfield 40, 3) := by decide +kernel
theorem dX3_init_85 : decode cX3_init 85 = .ok (.return_, 1) := by decide +kernel
theorem dX3_clear_0 : decode cX3_clear 0 = .ok (.aload_n 0, 1) := by decide +kernel
theorem dX3_clear_1 : decode cX3_clear 1 = .ok (.iconst 0, 1) := by decide +kernel
theorem dX3_clear_2 : decode cX3_clear 2 = .ok (.putfield 43, 3) := by decide +kernel
theorem dX3_clear_5 : decode cX3_clear 5 = .ok (.aload_n 0, 1) := by decide +kernel
theorem dX3_clear_6 : decode cX3_clear 6 = .ok (.iconst 0, 1) := by decide +kernel
theorem dX3_clear_7 : decode cX3_clear 7 = .ok (.putfield 47, 3) := by decide +kernel
theorem dX3_clear_10 : decode cX3_clear 10 = .ok (.aload_n 0, 1) := by decide +kernel
theorem dX3_clear_11 : decode cX3_clear 11 = .ok (.iconst 0, 1) := by decide +kernel
theorem dX3_clear_12 : decode cX3_clear 12 = .ok (.putfield 50, 3) := by decide +kernel
theorem dX3_clear_15 : decode cX3_clear 15 = .ok (.aload_n 0, 1) := by decide +kernel
theorem dX3_clear_16 : decode cX3_clear 16 = .ok (.iconst 0, 1) := by decide +kernel
theorem dX3_clear_17 : decode cX3_clear 17 = .ok (.putfield 53, 3) := by decide +kernel
theorem dX3_clear_20 : decode cX3_clear 20 = .ok (.aload_n 0, 1) := by decide +kernel
theorem dX3_clear_21 : decode cX3_clear 21 = .ok (.iconst 0, 1) := by decide +kernel
theorem dX3_clear_22 : decode cX3_clear 22 = .ok (.putfield 56, 3) := by decide +kernel
theorem dX3_clear_25 : decode cX3_clear 25 = .ok (.aload_n 0, 1) := by decide +kernel
theorem dX3_clear_26 : decode cX3_clear 26 = .ok (.iconst 0, 1) := by decide +kernel
theorem dX3_clear_27 : decode cX3_clear 27 = .ok (.putfield 59, 3) := by decide +kernel
theorem dX3_clear_30 : decode cX3_clear 30 = .ok (.iconst 0, 1) := by decide +kernel
theorem dX3_clear_31 : decode cX3_clear 31 = .ok (.istore_n 1, 1) := by decide +kernel
theorem dX3_clear_32 : decode cX3_clear 32 = .ok (.iload_n 1, 1) := by decide +kernel
theorem dX3_clear_33 : decode cX3_clear 33 = .ok (.bipush 64, 2) := by decide +kernel
theorem dX3_clear_35 : decode cX3_clear 35 = .ok (.if_icmp .ge 16, 3) := by decide +kernel
theorem dX3_clear_38 : decode cX3_clear 38 = .ok (.aload_n 0, 1) := by decide +kernel
theorem dX3_clear_39 : decode cX3_clear 39 = .ok (.getfield 9, 3) := by decide +kernel
theorem dX3_clear_42 : decode cX3_clear 42 = .ok (.iload_n 1, 1) := by decide +kernel
theorem dX3_clear_43 : decode cX3_clear 43 = .ok (.iconst 0, 1) := by decide +kernel
theorem dX3_clear_44 : decode cX3_clear 44 = .ok (.iastore, 1) := by decide +kernel
theorem dX3_clear_45 : decode cX3_clear 45 = .ok (.iinc 1 1, 3) := by decide +kernel
theorem dX3_clear_48 : decode cX3_clear 48 = .ok (.goto (-16), 3) := by decide +kernel
theorem dX3_clear_51 : decode cX3_clear 51 = .ok (.iconst 0, 1) := by decide +kernel
theorem dX3_clear_52 : decode cX3_clear 52 = .ok (.istore_n 1, 1) := by decide +kernel
theorem dX3_clear_53 : decode cX3_clear 53 = .ok (.iload_n 1, 1) := by decide +kernel
theorem dX3_clear_54 : decode cX3_clear 54 = .ok (.aload_n 0, 1) := by decide +kernel
theorem dX3_clear_55 : decode cX3_clear 55 = .ok (.getfield 15, 3) := by decide +kernel
theorem dX3_clear_58 : decode cX3_clear 58 = .ok (.arraylength, 1) := by decide +kernel
theorem dX3_clear_59 : decode cX3_clear 59 = .ok (.if_icmp .ge 16, 3) := by decide +kernel
theorem dX3_clear_62 : decode cX3_clear 62 = .ok (.aload_n 0, 1) := by decide +kernel
theorem dX3_clear_63 : decode cX3_clear 63 = .ok (.getfield 15, 3) := by decide +kernel
theorem dX3_clear_66 : decode cX3_clear 66 = .ok (.iload_n 1, 1) := by decide +kernel
theorem dX3_clear_67 : decode cX3_clear 67 = .ok (.iconst 0, 1) := by decide +kernel
theorem dX3_clear_68 : decode cX3_clear 68 = .ok (.iastore, 1) := by decide +kernel
theorem dX3_clear_69 : decode cX3_clear 69 = .ok (.iinc 1 1, 3) := by decide +kernel
theorem dX3_clear_72 : decode cX3_clear 72 = .ok (.goto (-19), 3) := by decide +kernel
theorem dX3_clear_75 : decode cX3_clear 75 = .ok (.aload_n 0, 1) := by decide +kernel
theorem dX3_clear_76 : decode cX3_clear 76 = .ok (.getfield 33, 3) := by decide +kernel
theorem dX3_clear_79 : decode cX3_clear 79 = .ok (.invokevirtual 62, 3) := by decide +kernel
theorem dX3_clear_82 : decode cX3_clear 82 = .ok (.aload_n 0, 1) := by decide +kernel
theorem dX3_clear_83 : decode cX3_clear 83 = .ok (.getfield 37, 3) := by decide +kernel
theorem dX3_clear_86 : decode cX3_clear 86 = .ok (.invokevirtual 62, 3) := by decide +kernel
theorem dX3_clear_89 : decode cX3_clear 89 = .ok (.aload_n 0, 1) := by decide +kernel
theorem dX3_clear_90 : decode cX3_clear 90 = .ok (.getfield 40, 3) := by decide +kernel
theorem dX3_clear_93 : decode cX3_clear 93 = .ok (.invokevirtual 62, 3) := by decide +kernel
theorem dX3_clear_96 : decode cX3_clear 96 = .ok (.return_, 1) := by decide +kernel
theorem dX3_copyOf_0 : decode cX3_copyOf 0 = .ok (.aload_n 0, 1) := by decide +kernel
theorem dX3_copyOf_1 : decode cX3_copyOf 1 = .ok (.aload_n 1, 1) := by decide +kernel
theorem dX3_copyOf_2 : decode cX3_copyOf 2 = .ok (.getfield 43, 3) := by decide +kernel
theorem dX3_copyOf_5 : decode cX3_copyOf 5 = .ok (.putfield 43, 3) := by decide +kernel
theorem dX3_copyOf_8 : decode cX3_copyOf 8 = .ok (.aload_n 0, 1) := by decide +kernel
theorem dX3_copyOf_9 : decode cX3_copyOf 9 = .ok (.aload_n 1, 1) := by decide +kernel
theorem dX3_copyOf_10 : decode cX3_copyOf 10 = .ok (.getfield 47, 3) := by decide +kernel
theorem dX3_copyOf_13 : decode cX3_copyOf 13 = .ok (.putfield 47, 3) := by decide +kernel
theorem dX3_copyOf_16 : decode cX3_copyOf 16 = .ok (.aload_n 0, 1) := by decide +kernel
theorem dX3_copyOf_17 : decode cX3_copyOf 17 = .ok (.aload_n 1, 1) := by decide +kernel
theorem dX3_copyOf_18 : decode cX3_copyOf 18 = .ok (.getfield 50, 3) := by decide +kernel
theorem dX3_copyOf_21 : decode cX3_copyOf 21 = .ok (.putfield 50, 3) := by decide +kernel
theorem dX3_copyOf_24 : decode cX3_copyOf 24 = .ok (.aload_n 0, 1) := by decide +kernel
theorem dX3_copyOf_25 : decode cX3_copyOf 25 = .ok (.aload_n 1, 1) := by decide +kernel
theorem dX3_copyOf_26 : decode cX3_copyOf 26 = .ok (.getfield 53, 3) := by decide +kernel
theorem dX3_copyOf_29 : decode cX3_copyOf 29 = .ok (.putfield 53, 3) := by decide +kernel
theorem dX3_copyOf_32 : decode cX3_copyOf 32 = .ok (.aload_n 0, 1) := by decide +kernel
theorem dX3_copyOf_33 : decode cX3_copyOf 33 = .ok (.aload_n 1, 1) := by decide +kernel
theorem dX3_copyOf_34 : decode cX3_copyOf 34 = .ok (.getfield 56, 3) := by decide +kernel
theorem dX3_copyOf_37 : decode cX3_copyOf 37 = .ok (.putfield 56, 3) := by decide +kernel
theorem dX3_copyOf_40 : decode cX3_copyOf 40 = .ok (.aload_n 0, 1) := by decide +kernel
theorem dX3_copyOf_41 : decode cX3_copyOf 41 = .ok (.aload_n 1, 1) := by decide +kernel
theorem dX3_copyOf_42 : decode cX3_copyOf 42 = .ok (.getfield 59, 3) := by decide +kernel
theorem dX3_copyOf_45 : decode cX3_copyOf 45 = .ok (.putfield 59, 3) := by decide +kernel
theorem dX3_copyOf_48 : decode cX3_copyOf 48 = .ok (.aload_n 1, 1) := by decide +kernel
theorem dX3_copyOf_49 : decode cX3_copyOf 49 = .ok (.getfield 9, 3) := by decide +kernel
theorem dX3_copyOf_52 : decode cX3_copyOf 52 = .ok (.iconst 0, 1) := by decide +kernel
theorem dX3_copyOf_53 : decode cX3_copyOf 53 = .ok (.aload_n 0, 1) := by decide +kernel
theorem dX3_copyOf_54 : decode cX3_copyOf 54 = .ok (.getfield 9, 3) := by decide +kernel
theorem dX3_copyOf_57 : decode cX3_copyOf 57 = .ok (.iconst 0, 1) := by decide +kernel
theorem dX3_copyOf_58 : decode cX3_copyOf 58 = .ok (.bipush 64, 2) := by decide +kernel
theorem dX3_copyOf_60 : decode cX3_copyOf 60 = .ok (.invokestatic 65, 3) := by decide +kernel
theorem dX3_copyOf_63 : decode cX3_copyOf 63 = .ok (.aload_n 1, 1) := by decide +kernel
theorem dX3_copyOf_64 : decode cX3_copyOf 64 = .ok (.getfield 15, 3) := by decide +kernel
theorem dX3_copyOf_67 : decode cX3_copyOf 67 = .ok (.iconst 0, 1) := by decide +kernel
theorem dX3_copyOf_68 : decode cX3_copyOf 68 = .ok (.aload_n 0, 1) := by decide +kernel
theorem dX3_copyOf_69 : decode cX3_copyOf 69 = .ok (.getfield 15, 3) := by decide +kernel
theorem dX3_copyOf_72 : decode cX3_copyOf 72 = .ok (.iconst 0, 1) := by decide +kernel
theorem dX3_copyOf_73 : decode cX3_copyOf 73 = .ok (.bipush 36, 2) := by decide +kernel
theorem dX3_copyOf_75 : decode cX3_copyOf 75 = .ok (.invokestatic 65, 3) := by decide +kernel
theorem dX3_copyOf_78 : decode cX3_copyOf 78 = .ok (.aload_n 1, 1) := by decide +kernel
theorem dX3_copyOf_79 : decode cX3_copyOf 79 = .ok (.getfield 18, 3) := by decide +kernel
theorem dX3_copyOf_82 : decode cX3_copyOf 82 = .ok (.iconst 0, 1) := by decide +kernel
theorem dX3_copyOf_83 : decode cX3_copyOf 83 = .ok (.aload_n 0, 1) := by decide +kernel
theorem dX3_copyOf_84 : decode cX3_copyOf 84 = .ok (.getfield 18, 3) := by decide +kernel
theorem dX3_copyOf_87 : decode cX3_copyOf 87 = .ok (.iconst 0, 1) := by decide +kernel
theorem dX3_copyOf_88 : decode cX3_copyOf 88 = .ok (.bipush 6, 2) := by decide +kernel
theorem dX3_copyOf_90 : decode cX3_copyOf 90 = .ok (.invokestatic 65, 3) := by decide +kernel
theorem dX3_copyOf_93 : decode cX3_copyOf 93 = .ok (.aload_n 1, 1) := by decide +kernel
theorem dX3_copyOf_94 : decode cX3_copyOf 94 = .ok (.getfield 21, 3) := by decide +kernel
theorem dX3_copyOf_97 : decode cX3_copyOf 97 = .ok (.iconst 0, 1) := by decide +kernel
theorem dX3_copyOf_98 : decode cX3_copyOf 98 = .ok (.aload_n 0, 1) := by decide +kernel
theorem dX3_copyOf_99 : decode cX3_copyOf 99 = .ok (.getfield 21, 3) := by decide +kernel
theorem dX3_copyOf_102 : decode cX3_copyOf 102 = .ok (.iconst 0, 1) := by decide +kernel
theorem dX3_copyOf_103 : decode cX3_copyOf 103 = .ok (.bipush 6, 2) := by decide +kernel
theorem dX3_copyOf_105 : decode cX3_copyOf 105 = .ok (.invokestatic 65, 3) := by decide +kernel
theorem dX3_copyOf_108 : decode cX3_copyOf 108 = .ok (.aload_n 1, 1) := by decide +kernel
theorem dX3_copyOf_109 : decode cX3_copyOf 109 = .ok (.getfield 24, 3) := by decide +kernel
theorem dX3_copyOf_112 : decode cX3_copyOf 112 = .ok (.iconst 0, 1) := by decide +kernel
theorem dX3_copyOf_113 : decode cX3_copyOf 113 = .ok (.aload_n 0, 1) := by decide +kernel
theorem dX3_copyOf_114 : decode cX3_copyOf 114 = .ok (.getfield 24, 3) := by decide +kernel
theorem dX3_copyOf_117 : decode cX3_copyOf 117 = .ok (.iconst 0, 1) := by decide +kernel
theorem dX3_copyOf_118 : decode cX3_copyOf 118 = .ok (.bipush 6, 2) := by decide +kernel
theorem dX3_copyOf_120 : decode cX3_copyOf 120 = .ok (.invokestatic 65, 3) := by decide +kernel
theorem dX3_copyOf_123 : decode cX3_copyOf 123 = .ok (.aload_n 1, 1) := by decide +kernel
theorem dX3_copyOf_124 : decode cX3_copyOf 124 = .ok (.getfield 27, 3) := by decide +kernel
theorem dX3_copyOf_127 : decode cX3_copyOf 127 = .ok (.iconst 0, 1) := by decide +kernel
theorem dX3_copyOf_128 : decode cX3_copyOf 128 = .ok (.aload_n 0, 1) := by decide +kernel
theorem dX3_copyOf_129 : decode cX3_copyOf 129 = .ok (.getfield 27, 3) := by decide +kernel
theorem dX3_copyOf_132 : decode cX3_copyOf 132 = .ok (.iconst 0, 1) := by decide +kernel
theorem dX3_copyOf_133 : decode cX3_copyOf 133 = .ok (.bipush 6, 2) := by decide +kernel
theorem dX3_copyOf_135 : decode cX3_copyOf 135 = .ok (.invokestatic 65, 3) := by decide +kernel
theorem dX3_copyOf_138 : decode cX3_copyOf 138 = .ok (.aload_n 0, 1) := by decide +kernel
theorem dX3_copyOf_139 : decode cX3_copyOf 139 = .ok (.getfield 33, 3) := by decide +kernel
theorem dX3_copyOf_142 : decode cX3_copyOf 142 = .ok (.aload_n 1, 1) := by decide +kernel
theorem dX3_copyOf_143 : decode cX3_copyOf 143 = .ok (.getfield 33, 3) := by decide +kernel
theorem dX3_copyOf_146 : decode cX3_copyOf 146 = .ok (.invokevirtual 71, 3) := by decide +kernel
theorem dX3_copyOf_149 : decode cX3_copyOf 149 = .ok (.aload_n 0, 1) := by decide +kernel
theorem dX3_copyOf_150 : decode cX3_copyOf 150 = .ok (.getfield 37, 3) := by decide +kernel
theorem dX3_copyOf_153 : decode cX3_copyOf 153 = .ok (.aload_n 1, 1) := by decide +kernel
theorem dX3_copyOf_154 : decode cX3_copyOf 154 = .ok (.getfield 37, 3) := by decide +kernel
theorem dX3_copyOf_157 : decode cX3_copyOf 157 = .ok (.invokevirtual 71, 3) := by decide +kernel
theorem dX3_copyOf_160 : decode cX3_copyOf 160 = .ok (.aload_n 0, 1) := by decide +kernel
theorem dX3_copyOf_161 : decode cX3_copyOf 161 = .ok (.getfield 40, 3) := by decide +kernel
theorem dX3_copyOf_164 : decode cX3_copyOf 164 = .ok (.aload_n 1, 1) := by decide +kernel
theorem dX3_copyOf_165 : decode cX3_copyOf 165 = .ok (.getfield 40, 3) := by decide +kernel
theorem dX3_copyOf_168 : decode cX3_copyOf 168 = .ok (.invokevirtual 71, 3) := by decide +kernel
theorem dX3_copyOf_171 : decode cX3_copyOf 171 = .ok (.return_, 1) := by decide +kernel
theorem dX3_hasPerson_0 : decode cX3_hasPerson 0 = .ok (.iload_n 1, 1) := by decide +kernel
theorem dX3_hasPerson_1 : decode cX3_hasPerson 1 = .ok (.ifCond .lt 15, 3) := by decide +kernel
theorem dX3_hasPerson_4 : decode cX3_hasPerson 4 = .ok (.iload_n 1, 1) := by decide +kernel
theorem dX3_hasPerson_5 : decode cX3_hasPerson 5 = .ok (.aload_n 0, 1) := by decide +kernel
theorem dX3_hasPerson_6 : decode cX3_hasPerson 6 = .ok (.getfield 53, 3) := by decide +kernel
theorem dX3_hasPerson_9 : decode cX3_hasPerson 9 = .ok (.if_icmp .ge 7, 3) := by decide +kernel
theorem dX3_hasPerson_12 : decode cX3_hasPerson 12 = .ok (.iconst 1, 1) := by decide +kernel
theorem dX3_hasPerson_13 : decode cX3_hasPerson 13 = .ok (.goto 4, 3) := by decide +kernel
theorem dX3_hasPerson_16 : decode cX3_hasPerson 16 = .ok (.iconst 0, 1) := by decide +kernel
theorem dX3_hasPerson_17 : decode cX3_hasPerson 17 = .ok (.ireturn, 1) := by decide +kernel
theorem dX3_cellAt_0 : decode cX3_cellAt 0 = .ok (.iload_n 1, 1) := by decide +kernel
theorem dX3_cellAt_1 : decode cX3_cellAt 1 = .ok (.ifCond .lt 23, 3) := by decide +kernel
theorem dX3_cellAt_4 : decode cX3_cellAt 4 = .ok (.iload_n 1, 1) := by decide +kernel
theorem dX3_cellAt_5 : decode cX3_cellAt 5 = .ok (.aload_n 0, 1) := by decide +kernel
theorem dX3_cellAt_6 : decode cX3_cellAt 6 = .ok (.getfield 43, 3) := by decide +kernel
theorem dX3_cellAt_9 : decode cX3_cellAt 9 = .ok (.if_icmp .ge 15, 3) := by decide +kernel
theorem dX3_cellAt_12 : decode cX3_cellAt 12 = .ok (.iload_n 2, 1) := by decide +kernel
theorem dX3_cellAt_13 : decode cX3_cellAt 13 = .ok (.ifCond .lt 11, 3) := by decide +kernel
theorem dX3_cellAt_16 : decode cX3_cellAt 16 = .ok (.iload_n 2, 1) := by decide +kernel
theorem dX3_cellAt_17 : decode cX3_cellAt 17 = .ok (.aload_n 0, 1) := by decide +kernel
theorem dX3_cellAt_18 : decode cX3_cellAt 18 = .ok (.getfield 47, 3) := by decide +kernel
theorem dX3_cellAt_21 : decode cX3_cellAt 21 = .ok (.if_icmp .lt 5, 3) := by decide +kernel
theorem dX3_cellAt_24 : decode cX3_cellAt 24 = .ok (.iconst (-1), 1) := by decide +kernel
theorem dX3_cellAt_25 : decode cX3_cellAt 25 = .ok (.ireturn, 1) := by decide +kernel
theorem dX3_cellAt_26 : decode cX3_cellAt 26 = .ok (.iload_n 2, 1) := by decide +kernel
theorem dX3_cellAt_27 : decode cX3_cellAt 27 = .ok (.aload_n 0, 1) := by decide +kernel
theorem dX3_cellAt_28 : decode cX3_cellAt 28 = .ok (.getfield 43, 3) := by decide +kernel
theorem dX3_cellAt_31 : decode cX3_cellAt 31 = .ok (.imul, 1) := by decide +kernel
theorem dX3_cellAt_32 : decode cX3_cellAt 32 = .ok (.iload_n 1, 1) := by decide +kernel
theorem dX3_cellAt_33 : decode cX3_cellAt 33 = .ok (.iadd, 1) := by decide +kernel
theorem dX3_cellAt_34 : decode cX3_cellAt 34 = .ok (.ireturn, 1) := by decide +kernel
theorem dX3_columnOf_0 : decode cX3_columnOf 0 = .ok (.aload_n 0, 1) := by decide +kernel
theorem dX3_columnOf_1 : decode cX3_columnOf 1 = .ok (.getfield 43, 3) := by decide +kernel
theorem dX3_columnOf_4 : decode cX3_columnOf 4 = .ok (.iconst 1, 1) := by decide +kernel
theorem dX3_columnOf_5 : decode cX3_columnOf 5 = .ok (.if_icmp .ge 7, 3) := by decide +kernel
theorem dX3_columnOf_8 : decode cX3_columnOf 8 = .ok (.iconst 0, 1) := by decide +kernel
theorem dX3_columnOf_9 : decode cX3_columnOf 9 = .ok (.goto 9, 3) := by decide +kernel
theorem dX3_columnOf_12 : decode cX3_columnOf 12 = .ok (.iload_n 1, 1) := by decide +kernel
theorem dX3_columnOf_13 : decode cX3_columnOf 13 = .ok (.aload_n 0, 1) := by decide +kernel
theorem dX3_columnOf_14 : decode cX3_columnOf 14 = .ok (.getfield 43, 3) := by decide +kernel
theorem dX3_columnOf_17 : decode cX3_columnOf 17 = .ok (.irem, 1) := by decide +kernel
theorem dX3_columnOf_18 : decode cX3_columnOf 18 = .ok (.ireturn, 1) := by decide +kernel
theorem dX3_rowOf_0 : decode cX3_rowOf 0 = .ok (.aload_n 0, 1) := by decide +kernel
theorem dX3_rowOf_1 : decode cX3_rowOf 1 = .ok (.getfield 43, 3) := by decide +kernel
theorem dX3_rowOf_4 : decode cX3_rowOf 4 = .ok (.iconst 1, 1) := by decide +kernel
theorem dX3_rowOf_5 : decode cX3_rowOf 5 = .ok (.if_icmp .ge 7, 3) := by decide +kernel
theorem dX3_rowOf_8 : decode cX3_rowOf 8 = .ok (.iconst 0, 1) := by decide +kernel
theorem dX3_rowOf_9 : decode cX3_rowOf 9 = .ok (.goto 9, 3) := by decide +kernel
theorem dX3_rowOf_12 : decode cX3_rowOf 12 = .ok (.iload_n 1, 1) := by decide +kernel
theorem dX3_rowOf_13 : decode cX3_rowOf 13 = .ok (.aload_n 0, 1) := by decide +kernel
theorem dX3_rowOf_14 : decode cX3_rowOf 14 = .ok (.getfield 43, 3) := by decide +kernel
theorem dX3_rowOf_17 : decode cX3_rowOf 17 = .ok (.idiv, 1) := by decide +kernel
theorem dX3_rowOf_18 : decode cX3_rowOf 18 = .ok (.ireturn, 1) := by decide +kernel
theorem dX3_beside_0 : decode cX3_beside 0 = .ok (.iload_n 2, 1) := by decide +kernel
theorem dX3_beside_1 : decode cX3_beside 1 = .ok (.tableswitch 118 0 4 #[35, 37, 53, 75, 94], 35) := by decide +kernel
theorem dX3_beside_36 : decode cX3_beside 36 = .ok (.iload_n 1, 1) := by decide +kernel
theorem dX3_beside_37 : decode cX3_beside 37 = .ok (.ireturn, 1) := by decide +kernel
theorem dX3_beside_38 : decode cX3_beside 38 = .ok (.aload_n 0, 1) := by decide +kernel
theorem dX3_beside_39 : decode cX3_beside 39 = .ok (.iload_n 1, 1) := by decide +kernel
theorem dX3_beside_40 : decode cX3_beside 40 = .ok (.invokevirtual 75, 3) := by decide +kernel
theorem dX3_beside_43 : decode cX3_beside 43 = .ok (.ifCond .le 9, 3) := by decide +kernel
theorem dX3_beside_46 : decode cX3_beside 46 = .ok (.iload_n 1, 1) := by decide +kernel
theorem dX3_beside_47 : decode cX3_beside 47 = .ok (.iconst 1, 1) := by decide +kernel
theorem dX3_beside_48 : decode cX3_beside 48 = .ok (.isub, 1) := by decide +kernel
theorem dX3_beside_49 : decode cX3_beside 49 = .ok (.goto 4, 3) := by decide +kernel
theorem dX3_beside_52 : decode cX3_beside 52 = .ok (.iconst (-1), 1) := by decide +kernel
theorem dX3_beside_53 : decode cX3_beside 53 = .ok (.ireturn, 1) := by decide +kernel
theorem dX3_beside_54 : decode cX3_beside 54 = .ok (.aload_n 0, 1) := by decide +kernel
theorem dX3_beside_55 : decode cX3_beside 55 = .ok (.iload_n 1, 1) := by decide +kernel
theorem dX3_beside_56 : decode cX3_beside 56 = .ok (.invokevirtual 75, 3) := by decide +kernel
theorem dX3_beside_59 : decode cX3_beside 59 = .ok (.iconst 1, 1) := by decide +kernel
theorem dX3_beside_60 : decode cX3_beside 60 = .ok (.iadd, 1) := by decide +kernel
theorem dX3_beside_61 : decode cX3_beside 61 = .ok (.aload_n 0, 1) := by decide +kernel
theorem dX3_beside_62 : decode cX3_beside 62 = .ok (.getfield 43, 3) := by decide +kernel
theorem dX3_beside_65 : decode cX3_beside 65 = .ok (.if_icmp .ge 9, 3) := by decide +kernel
theorem dX3_beside_68 : decode cX3_beside 68 = .ok (.iload_n 1, 1) := by decide +kernel
theorem dX3_beside_69 : decode cX3_beside 69 = .ok (.iconst 1, 1) := by decide +kernel
theorem dX3_beside_70 : decode cX3_beside 70 = .ok (.iadd, 1) := by decide +kernel
theorem dX3_beside_71 : decode cX3_beside 71 = .ok (.goto 4, 3) := by decide +kernel
theorem dX3_beside_74 : decode cX3_beside 74 = .ok (.iconst (-1), 1) := by decide +kernel
theorem dX3_beside_75 : decode cX3_beside 75 = .ok (.ireturn, 1) := by decide +kernel
theorem dX3_beside_76 : decode cX3_beside 76 = .ok (.iload_n 1, 1) := by decide +kernel
theorem dX3_beside_77 : decode cX3_beside 77 = .ok (.aload_n 0, 1) := by decide +kernel
theorem dX3_beside_78 : decode cX3_beside 78 = .ok (.getfield 43, 3) := by decide +kernel
theorem dX3_beside_81 : decode cX3_beside 81 = .ok (.if_icmp .lt 12, 3) := by decide +kernel
theorem dX3_beside_84 : decode cX3_beside 84 = .ok (.iload_n 1, 1) := by decide +kernel
theorem dX3_beside_85 : decode cX3_beside 85 = .ok (.aload_n 0, 1) := by decide +kernel
theorem dX3_beside_86 : decode cX3_beside 86 = .ok (.getfield 43, 3) := by decide +kernel
theorem dX3_beside_89 : decode cX3_beside 89 = .ok (.isub, 1) := by decide +kernel
theorem dX3_beside_90 : decode cX3_beside 90 = .ok (.goto 4, 3) := by decide +kernel
theorem dX3_beside_93 : decode cX3_beside 93 = .ok (.iconst (-1), 1) := by decide +kernel
theorem dX3_beside_94 : decode cX3_beside 94 = .ok (.ireturn, 1) := by decide +kernel
theorem dX3_beside_95 : decode cX3_beside 95 = .ok (.iload_n 1, 1) := by decide +kernel
theorem dX3_beside_96 : decode cX3_beside 96 = .ok (.aload_n 0, 1) := by decide +kernel
theorem dX3_beside_97 : decode cX3_beside 97 = .ok (.getfield 43, 3) := by decide +kernel
theorem dX3_beside_100 : decode cX3_beside 100 = .ok (.iadd, 1) := by decide +kernel
theorem dX3_beside_101 : decode cX3_beside 101 = .ok (.aload_n 0, 1) := by decide +kernel
theorem dX3_beside_102 : decode cX3_beside 102 = .ok (.getfield 50, 3) := by decide +kernel
theorem dX3_beside_105 : decode cX3_beside 105 = .ok (.if_icmp .ge 12, 3) := by decide +kernel
theorem dX3_beside_108 : decode cX3_beside 108 = .ok (.iload_n 1, 1) := by decide +kernel
theorem dX3_beside_109 : decode cX3_beside 109 = .ok (.aload_n 0, 1) := by decide +kernel
theorem dX3_beside_110 : decode cX3_beside 110 = .ok (.getfield 43, 3) := by decide +kernel
theorem dX3_beside_113 : decode cX3_beside 113 = .ok (.iadd, 1) := by decide +kernel
theorem dX3_beside_114 : decode cX3_beside 114 = .ok (.goto 4, 3) := by decide +kernel
theorem dX3_beside_117 : decode cX3_beside 117 = .ok (.iconst (-1), 1) := by decide +kernel
theorem dX3_beside_118 : decode cX3_beside 118 = .ok (.ireturn, 1) := by decide +kernel
theorem dX3_beside_119 : decode cX3_beside 119 = .ok (.iconst (-1), 1) := by decide +kernel
theorem dX3_beside_120 : decode cX3_beside 120 = .ok (.ireturn, 1) := by decide +kernel
theorem dX4_init_0 : decode cX4_init 0 = .ok (.aload_n 0, 1) := by decide +kernel
theorem dX4_init_1 : decode cX4_init 1 = .ok (.invokespecial 3, 3) := by decide +kernel
theorem dX4_init_4 : decode cX4_init 4 = .ok (.aload_n 0, 1) := by decide +kernel
theorem dX4_init_5 : decode cX4_init 5 = .ok (.new 9, 3) := by decide +kernel
theorem dX4_init_8 : decode cX4_init 8 = .ok (.dup, 1) := by decide +kernel
theorem dX4_init_9 : decode cX4_init 9 = .ok (.invokespecial 11, 3) := by decide +kernel
theorem dX4_init_12 : decode cX4_init 12 = .ok (.putfield 12, 3) := by decide +kernel
theorem dX4_init_15 : decode cX4_init 15 = .ok (.aload_n 0, 1) := by decide +kernel
theorem dX4_init_16 : decode cX4_init 16 = .ok (.iconst (-1), 1) := by decide +kernel
theorem dX4_init_17 : decode cX4_init 17 = .ok (.putfield 18, 3) := by decide +kernel
theorem dX4_init_20 : decode cX4_init 20 = .ok (.aload_n 0, 1) := by decide +kernel
theorem dX4_init_21 : decode cX4_init 21 = .ok (.sipush 1601, 3) := by decide +kernel
theorem dX4_init_24 : decode cX4_init 24 = .ok (.newarray .int, 2) := by decide +kernel
theorem dX4_init_26 : decode cX4_init 26 = .ok (.putfield 22, 3) := by decide +kernel
theorem dX4_init_29 : decode cX4_init 29 = .ok (.aload_n 0, 1) := by decide +kernel
theorem dX4_init_30 : decode cX4_init 30 = .ok (.sipush 1601, 3) := by decide +kernel
theorem dX4_init_33 : decode cX4_init 33 = .ok (.newarray .int, 2) := by decide +kernel
theorem dX4_init_35 : decode cX4_init 35 = .ok (.putfield 26, 3) := by decide +kernel
theorem dX4_init_38 : decode cX4_init 38 = .ok (.aload_n 0, 1) := by decide +kernel
theorem dX4_init_39 : decode cX4_init 39 = .ok (.sipush 1601, 3) := by decide +kernel
theorem dX4_init_42 : decode cX4_init 42 = .ok (.newarray .int, 2) := by decide +kernel
theorem dX4_init_44 : decode cX4_init 44 = .ok (.putfield 29, 3) := by decide +kernel
theorem dX4_init_47 : decode cX4_init 47 = .ok (.aload_n 0, 1) := by decide +kernel
theorem dX4_init_48 : decode cX4_init 48 = .ok (.aload_n 0, 1) := by decide +kernel
theorem dX4_init_49 : decode cX4_init 49 = .ok (.getfield 12, 3) := by decide +kernel
theorem dX4_init_52 : decode cX4_init 52 = .ok (.getfield 32, 3) := by decide +kernel
theorem dX4_init_55 : decode cX4_init 55 = .ok (.putfield 36, 3) := by decide +kernel
theorem dX4_init_58 : decode cX4_init 58 = .ok (.return_, 1) := by decide +kernel
theorem dX4_read_0 : decode cX4_read 0 = .ok (.aload_n 0, 1) := by decide +kernel
theorem dX4_read_1 : decode cX4_read 1 = .ok (.iconst 0, 1) := by decide +kernel
theorem dX4_read_2 : decode cX4_read 2 = .ok (.putfield 39, 3) := by decide +kernel
theorem dX4_read_5 : decode cX4_read 5 = .ok (.aload_n 0, 1) := by decide +kernel
theorem dX4_read_6 : decode cX4_read 6 = .ok (.iconst (-1), 1) := by decide +kernel
theorem dX4_read_7 : decode cX4_read 7 = .ok (.putfield 18, 3) := by decide +kernel
theorem dX4_read_10 : decode cX4_read 10 = .ok (.aload_n 0, 1) := by decide +kernel
theorem dX4_read_11 : decode cX4_read 11 = .ok (.iconst 0, 1) := by decide +kernel
theorem dX4_read_12 : decode cX4_read 12 = .ok (.putfield 42, 3) := by decide +kernel
theorem dX4_read_15 : decode cX4_read 15 = .ok (.aload_n 0, 1) := by decide +kernel
theorem dX4_read_16 : decode cX4_read 16 = .ok (.iconst 0, 1) := by decide +kernel
theorem dX4_read_17 : decode cX4_read 17 = .ok (.putfield 45, 3) := by decide +kernel
theorem dX4_read_20 : decode cX4_read 20 = .ok (.aload_n 0, 1) := by decide +kernel
theorem dX4_read_21 : decode cX4_read 21 = .ok (.getfield 12, 3) := by decide +kernel
theorem dX4_read_24 : decode cX4_read 24 = .ok (.invokevirtual 48, 3) := by decide +kernel
theorem dX4_read_27 : decode cX4_read 27 = .ok (.aload_n 0, 1) := by decide +kernel
theorem dX4_read_28 : decode cX4_read 28 = .ok (.aload_n 1, 1) := by decide +kernel
theorem dX4_read_29 : decode cX4_read 29 = .ok (.iload_n 2, 1) := by decide +kernel
theorem dX4_read_30 : decode cX4_read 30 = .ok (.sipush 1600, 3) := by decide +kernel
theorem dX4_read_33 : decode cX4_read 33 = .ok (.invokestatic 51, 3) := by decide +kernel
theorem dX4_read_36 : decode cX4_read 36 = .ok (.invokevirtual 57, 3) := by decide +kernel
theorem dX4_read_39 : decode cX4_read 39 = .ok (.iconst 0, 1) := by decide +kernel
theorem dX4_read_40 : decode cX4_read 40 = .ok (.istore_n 3, 1) := by decide +kernel
theorem dX4_read_41 : decode cX4_read 41 = .ok (.iload_n 3, 1) := by decide +kernel
theorem dX4_read_42 : decode cX4_read 42 = .ok (.bipush 80, 2) := by decide +kernel
theorem dX4_read_44 : decode cX4_read 44 = .ok (.if_icmp .gt 78, 3) := by decide +kernel
theorem dX4_read_47 : decode cX4_read 47 = .ok (.iload_n 3, 1) := by decide +kernel
theorem dX4_read_48 : decode cX4_read 48 = .ok (.ifCond .le 27, 3) := by decide +kernel
theorem dX4_read_51 : decode cX4_read 51 = .ok (.aload_n 0, 1) := by decide +kernel
theorem dX4_read_52 : decode cX4_read 52 = .ok (.getfield 22, 3) := by decide +kernel
theorem dX4_read_55 : decode cX4_read 55 = .ok (.aload_n 0, 1) := by decide +kernel
theorem dX4_read_56 : decode cX4_read 56 = .ok (.getfield 42, 3) := by decide +kernel
theorem dX4_read_59 : decode cX4_read 59 = .ok (.iaload, 1) := by decide +kernel
theorem dX4_read_60 : decode cX4_read 60 = .ok (.bipush 26, 2) := by decide +kernel
theorem dX4_read_62 : decode cX4_read 62 = .ok (.if_icmp .ne 13, 3) := by decide +kernel
theorem dX4_read_65 : decode cX4_read 65 = .ok (.aload_n 0, 1) := by decide +kernel
theorem dX4_read_66 : decode cX4_read 66 = .ok (.getfield 12, 3) := by decide +kernel
theorem dX4_read_69 : decode cX4_read 69 = .ok (.iload_n 3, 1) := by decide +kernel
theorem dX4_read_70 : decode cX4_read 70 = .ok (.putfield 61, 3) := by decide +kernel
theorem dX4_read_73 : decode cX4_read 73 = .ok (.iconst 1, 1) := by decide +kernel
theorem dX4_read_74 : decode cX4_read 74 = .ok (.ireturn, 1) := by decide +kernel
theorem dX4_read_75 : decode cX4_read 75 = .ok (.iload_n 3, 1) := by decide +kernel
theorem dX4_read_76 : decode cX4_read 76 = .ok (.bipush 80, 2) := by decide +kernel
theorem dX4_read_78 : decode cX4_read 78 = .ok (.if_icmp .ne 10, 3) := by decide +kernel
theorem dX4_read_81 : decode cX4_read 81 = .ok (.aload_n 0, 1) := by decide +kernel
theorem dX4_read_82 : decode cX4_read 82 = .ok (.bipush 6, 2) := by decide +kernel
theorem dX4_read_84 : decode cX4_read 84 = .ok (.invokevirtual 64, 3) := by decide +kernel
theorem dX4_read_87 : decode cX4_read 87 = .ok (.ireturn, 1) := by decide +kernel
theorem dX4_read_88 : decode cX4_read 88 = .ok (.aload_n 0, 1) := by decide +kernel
theorem dX4_read_89 : decode cX4_read 89 = .ok (.iload_n 3, 1) := by decide +kernel
theorem dX4_read_90 : decode cX4_read 90 = .ok (.ifCond .ne 7, 3) := by decide +kernel
theorem dX4_read_93 : decode cX4_read 93 = .ok (.iconst 1, 1) := by decide +kernel
theorem dX4_read_94 : decode cX4_read 94 = .ok (.goto 4, 3) := by decide +kernel
theorem dX4_read_97 : decode cX4_read 97 = .ok (.iconst 0, 1) := by decide +kernel
theorem dX4_read_98 : decode cX4_read 98 = .ok (.aload_n 1, 1) := by decide +kernel
theorem dX4_read_99 : decode cX4_read 99 = .ok (.invokevirtual 68, 3) := by decide +kernel
theorem dX4_read_102 : decode cX4_read 102 = .ok (.ifCond .eq 12, 3) := by decide +kernel
theorem dX4_read_105 : decode cX4_read 105 = .ok (.aload_n 0, 1) := by decide +kernel
theorem dX4_read_106 : decode cX4_read 106 = .ok (.bipush 59, 2) := by decide +kernel
theorem dX4_read_108 : decode cX4_read 108 = .ok (.invokevirtual 72, 3) := by decide +kernel
theorem dX4_read_111 : decode cX4_read 111 = .ok (.ifCond .ne 5, 3) := by decide +kernel
theorem dX4_read_114 : decode cX4_read 114 = .ok (.iconst 0, 1) := by decide +kernel
theorem dX4_read_115 : decode cX4_read 115 = .ok (.ireturn, 1) := by decide +kernel
theorem dX4_read_116 : decode cX4_read 116 = .ok (.iinc 3 1, 3) := by decide +kernel
theorem dX4_read_119 : decode cX4_read 119 = .ok (.goto (-78), 3) := by decide +kernel
theorem dX4_read_122 : decode cX4_read 122 = .ok (.iconst 0, 1) := by decide +kernel
theorem dX4_read_123 : decode cX4_read 123 = .ok (.ireturn, 1) := by decide +kernel
theorem dX4_readStatement_0 : decode cX4_readStatement 0 = .ok (.iload_n 1, 1) := by decide +kernel
theorem dX4_readStatement_1 : decode cX4_readStatement 1 = .ok (.aload_n 0, 1) := by decide +kernel
theorem dX4_readStatement_2 : decode cX4_readStatement 2 = .ok (.getfield 22, 3) := by decide +kernel
theorem dX4_readStatement_5 : decode cX4_readStatement 5 = .ok (.aload_n 0, 1) := by decide +kernel
theorem dX4_readStatement_6 : decode cX4_readStatement 6 = .ok (.getfield 42, 3) := by decide +kernel
theorem dX4_readStatement_9 : decode cX4_readStatement 9 = .ok (.iaload, 1) := by decide +kernel
theorem dX4_readStatement_10 : decode cX4_readStatement 10 = .ok (.ifCond .ne 7, 3) := by decide +kernel
theorem dX4_readStatement_13 : decode cX4_readStatement 13 = .ok (.iconst 1, 1) := by decide +kernel
theorem dX4_readStatement_14 : decode cX4_readStatement 14 = .ok (.goto 4, 3) := by decide +kernel
theorem dX4_readStatement_17 : decode cX4_readStatement 17 = .ok (.iconst 0, 1) := by decide +kernel
theorem dX4_readStatement_18 : decode cX4_readStatement 18 = .ok (.if_icmp .eq 8, 3) := by decide +kernel
theorem dX4_readStatement_21 : decode cX4_readStatement 21 = .ok (.aload_n 0, 1) := by decide +kernel
theorem dX4_readStatement_22 : decode cX4_readStatement 22 = .ok (.invokevirtual 75, 3) := by decide +kernel
theorem dX4_readStatement_25 : decode cX4_readStatement 25 = .ok (.ireturn, 1) := by decide +kernel
theorem dX4_readStatement_26 : decode cX4_readStatement 26 = .ok (.aload_n 0, 1) := by decide +kernel
theorem dX4_readStatement_27 : decode cX4_readStatement 27 = .ok (.getfield 22, 3) := by decide +kernel
theorem dX4_readStatement_30 : decode cX4_readStatement 30 = .ok (.aload_n 0, 1) := by decide +kernel
theorem dX4_readStatement_31 : decode cX4_readStatement 31 = .ok (.getfield 42, 3) := by decide +kernel
theorem dX4_readStatement_34 : decode cX4_readStatement 34 = .ok (.iaload, 1) := by decide +kernel
theorem dX4_readStatement_35 : decode cX4_readStatement 35 = .ok (.tableswitch 124 0 11 #[61, 124, 66, 71, 124, 124, 124, 124, 77, 91, 105, 119], 61) := by decide +kernel
theorem dX4_readStatement_96 : decode cX4_readStatement 96 = .ok (.aload_n 0, 1) := by decide +kernel
theorem dX4_readStatement_97 : decode cX4_readStatement 97 = .ok (.invokevirtual 79, 3) := by decide +kernel
theorem dX4_readStatement_100 : decode cX4_readStatement 100 = .ok (.ireturn, 1) := by decide +kernel
theorem dX4_readStatement_101 : decode cX4_readStatement 101 = .ok (.aload_n 0, 1) := by decide +kernel
theorem dX4_readStatement_102 : decode cX4_readStatement 102 = .ok (.invokevirtual 82, 3) := by decide +kernel
theorem dX4_readStatement_105 : decode cX4_readStatement 105 = .ok (.ireturn, 1) := by decide +kernel
theorem dX4_readStatement_106 : decode cX4_readStatement 106 = .ok (.aload_n 0, 1) := by decide +kernel
theorem dX4_readStatement_107 : decode cX4_readStatement 107 = .ok (.aload_n 2, 1) := by decide +kernel
theorem dX4_readStatement_108 : decode cX4_readStatement 108 = .ok (.invokevirtual 85, 3) := by decide +kernel
theorem dX4_readStatement_111 : decode cX4_readStatement 111 = .ok (.ireturn, 1) := by decide +kernel
theorem dX4_readStatement_112 : decode cX4_readStatement 112 = .ok (.aload_n 0, 1) := by decide +kernel
theorem dX4_readStatement_113 : decode cX4_readStatement 113 = .ok (.bipush 8, 2) := by decide +kernel
theorem dX4_readStatement_115 : decode cX4_readStatement 115 = .ok (.aload_n 0, 1) := by decide +kernel
theorem dX4_readStatement_116 : decode cX4_readStatement 116 = .ok (.getfield 12, 3) := by decide +kernel
theorem dX4_readStatement_119 : decode cX4_readStatement 119 = .ok (.getfield 32, 3) := by decide +kernel
theorem dX4_readStatement_122 : decode cX4_readStatement 122 = .ok (.invokevirtual 89, 3) := by decide +kernel
theorem dX4_readStatement_125 : decode cX4_readStatement 125 = .ok (.ireturn, 1) := by decide +kernel
theorem dX4_readStatement_126 : decode cX4_readStatement 126 = .ok (.aload_n 0, 1) := by decide +kernel
theorem dX4_readStatement_127 : decode cX4_readStatement 127 = .ok (.bipush 9, 2) := by decide +kernel
theorem dX4_readStatement_129 : decode cX4_readStatement 129 = .ok (.aload_n 0, 1) := by decide +kernel
theorem dX4_readStatement_130 : decode cX4_readStatement 130 = .ok (.getfield 12, 3) := by decide +kernel
theorem dX4_readStatement_133 : decode cX4_readStatement 133 = .ok (.getfield 93, 3) := by decide +kernel
theorem dX4_readStatement_136 : decode cX4_readStatement 136 = .ok (.invokevirtual 89, 3) := by decide +kernel
theorem dX4_readStatement_139 : decode cX4_readStatement 139 = .ok (.ireturn, 1) := by decide +kernel
theorem dX4_readStatement_140 : decode cX4_readStatement 140 = .ok (.aload_n 0, 1) := by decide +kernel
theorem dX4_readStatement_141 : decode cX4_readStatement 141 = .ok (.bipush 10, 2) := by decide +kernel
theorem dX4_readStatement_143 : decode cX4_readStatement 143 = .ok (.aload_n 0, 1) := by decide +kernel
theorem dX4_readStatement_144 : decode cX4_readStatement 144 = .ok (.getfield 12, 3) := by decide +kernel
theorem dX4_readStatement_147 : decode cX4_readStatement 147 = .ok (.getfield 96, 3) := by decide +kernel
theorem dX4_readStatement_150 : decode cX4_readStatement 150 = .ok (.invokevirtual 89, 3) := by decide +kernel
theorem dX4_readStatement_153 : decode cX4_readStatement 153 = .ok (.ireturn, 1) := by decide +kernel
theorem dX4_readStatement_154 : decode cX4_readStatement 154 = .ok (.aload_n 0, 1) := by decide +kernel
theorem dX4_readStatement_155 : decode cX4_readStatement 155 = .ok (.invokevirtual 99, 3) := by decide +kernel
theorem dX4_readStatement_158 : decode cX4_readStatement 158 = .ok (.ireturn, 1) := by decide +kernel
theorem dX4_readStatement_159 : decode cX4_readStatement 159 = .ok (.aload_n 0, 1) := by decide +kernel
theorem dX4_readStatement_160 : decode cX4_readStatement 160 = .ok (.invokevirtual 75, 3) := by decide +kernel
theorem dX4_readStatement_163 : decode cX4_readStatement 163 = .ok (.ireturn, 1) := by decide +kernel
theorem dX4_readField_0 : decode cX4_readField 0 = .ok (.aload_n 0, 1) := by decide +kernel
theorem dX4_readField_1 : decode cX4_readField 1 = .ok (.invokevirtual 102, 3) := by decide +kernel
theorem dX4_readField_4 : decode cX4_readField 4 = .ok (.aload_n 0, 1) := by decide +kernel
theorem dX4_readField_5 : decode cX4_readField 5 = .ok (.iconst 2, 1) := by decide +kernel
theorem dX4_readField_6 : decode cX4_readField 6 = .ok (.bipush 8, 2) := by decide +kernel
theorem dX4_readField_8 : decode cX4_readField 8 = .ok (.invokevirtual 105, 3) := by decide +kernel
theorem dX4_readField_11 : decode cX4_readField 11 = .ok (.ifCond .ne 5, 3) := by decide +kernel
theorem dX4_readField_14 : decode cX4_readField 14 = .ok (.iconst 0, 1) := by decide +kernel
theorem dX4_readField_15 : decode cX4_readField 15 = .ok (.ireturn, 1) := by decide +kernel
theorem dX4_readField_16 : decode cX4_readField 16 = .ok (.aload_n 0, 1) := by decide +kernel
theorem dX4_readField_17 : decode cX4_readField 17 = .ok (.getfield 12, 3) := by decide +kernel
theorem dX4_readField_20 : decode cX4_readField 20 = .ok (.aload_n 0, 1) := by decide +kernel
theorem dX4_readField_21 : decode cX4_readField 21 = .ok (.invokevirtual 109, 3) := by decide +kernel
theorem dX4_readField_24 : decode cX4_readField 24 = .ok (.putfield 113, 3) := by decide +kernel
theorem dX4_readField_27 : decode cX4_readField 27 = .ok (.aload_n 0, 1) := by decide +kernel
theorem dX4_readField_28 : decode cX4_readField 28 = .ok (.iconst 1, 1) := by decide +kernel
theorem dX4_readField_29 : decode cX4_readField 29 = .ok (.invokevirtual 72, 3) := by decide +kernel
theorem dX4_readField_32 : decode cX4_readField 32 = .ok (.ifCond .eq 13, 3) := by decide +kernel
theorem dX4_readField_35 : decode cX4_readField 35 = .ok (.aload_n 0, 1) := by decide +kernel
theorem dX4_readField_36 : decode cX4_readField 36 = .ok (.iconst 2, 1) := by decide +kernel
theorem dX4_readField_37 : decode cX4_readField 37 = .ok (.bipush 8, 2) := by decide +kernel
theorem dX4_readField_39 : decode cX4_readField 39 = .ok (.invokevirtual 105, 3) := by decide +kernel
theorem dX4_readField_42 : decode cX4_readField 42 = .ok (.ifCond .ne 5, 3) := by decide +kernel
theorem dX4_readField_45 : decode cX4_readField 45 = .ok (.iconst 0, 1) := by decide +kernel
theorem dX4_readField_46 : decode cX4_readField 46 = .ok (.ireturn, 1) := by decide +kernel
theorem dX4_readField_47 : decode cX4_readField 47 = .ok (.aload_n 0, 1) := by decide +kernel
theorem dX4_readField_48 : decode cX4_readField 48 = .ok (.getfield 12, 3) := by decide +kernel
theorem dX4_readField_51 : decode cX4_readField 51 = .ok (.aload_n 0, 1) := by decide +kernel
theorem dX4_readField_52 : decode cX4_readField 52 = .ok (.invokevirtual 109, 3) := by decide +kernel
theorem dX4_readField_55 : decode cX4_readField 55 = .ok (.putfield 116, 3) := by decide +kernel
theorem dX4_readField_58 : decode cX4_readField 58 = .ok (.aload_n 0, 1) := by decide +kernel
theorem dX4_readField_59 : decode cX4_readField 59 = .ok (.getfield 12, 3) := by decide +kernel
theorem dX4_readField_62 : decode cX4_readField 62 = .ok (.aload_n 0, 1) := by decide +kernel
theorem dX4_readField_63 : decode cX4_readField 63 = .ok (.getfield 12, 3) := by decide +kernel
theorem dX4_readField_66 : decode cX4_readField 66 = .ok (.getfield 113, 3) := by decide +kernel
theorem dX4_readField_69 : decode cX4_readField 69 = .ok (.aload_n 0, 1) := by decide +kernel
theorem dX4_readField_70 : decode cX4_readField 70 = .ok (.getfield 12, 3) := by decide +kernel
theorem dX4_readField_73 : decode cX4_readField 73 = .ok (.getfield 116, 3) := by decide +kernel
theorem dX4_readField_76 : decode cX4_readField 76 = .ok (.imul, 1) := by decide +kernel
theorem dX4_readField_77 : decode cX4_readField 77 = .ok (.putfield 119, 3) := by decide +kernel
theorem dX4_readField_80 : decode cX4_readField 80 = .ok (.iconst 1, 1) := by decide +kernel
theorem dX4_readField_81 : decode cX4_readField 81 = .ok (.ireturn, 1) := by decide +kernel
theorem dX4_readDew_0 : decode cX4_readDew 0 = .ok (.aload_n 0, 1) := by decide +kernel
theorem dX4_readDew_1 : decode cX4_readDew 1 = .ok (.invokevirtual 102, 3) := by decide +kernel
theorem dX4_readDew_4 : decode cX4_readDew 4 = .ok (.aload_n 0, 1) := by decide +kernel
theorem dX4_readDew_5 : decode cX4_readDew 5 = .ok (.invokevirtual 122, 3) := by decide +kernel
theorem dX4_readDew_8 : decode cX4_readDew 8 = .ok (.istore_n 1, 1) := by decide +kernel
theorem dX4_readDew_9 : decode cX4_readDew 9 = .ok (.iload_n 1, 1) := by decide +kernel
theorem dX4_readDew_10 : decode cX4_readDew 10 = .ok (.iconst (-1), 1) := by decide +kernel
theorem dX4_readDew_11 : decode cX4_readDew 11 = .ok (.if_icmp .eq 13, 3) := by decide +kernel
theorem dX4_readDew_14 : decode cX4_readDew 14 = .ok (.aload_n 0, 1) := by decide +kernel
theorem dX4_readDew_15 : decode cX4_readDew 15 = .ok (.iconst 0, 1) := by decide +kernel
theorem dX4_readDew_16 : decode cX4_readDew 16 = .ok (.bipush 99, 2) := by decide +kernel
theorem dX4_readDew_18 : decode cX4_readDew 18 = .ok (.invokevirtual 105, 3) := by decide +kernel
theorem dX4_readDew_21 : decode cX4_readDew 21 = .ok (.ifCond .ne 5, 3) := by decide +kernel
theorem dX4_readDew_24 : decode cX4_readDew 24 = .ok (.iconst 0, 1) := by decide +kernel
theorem dX4_readDew_25 : decode cX4_readDew 25 = .ok (.ireturn, 1) := by decide +kernel
theorem dX4_readDew_26 : decode cX4_readDew 26 = .ok (.aload_n 0, 1) := by decide +kernel
theorem dX4_readDew_27 : decode cX4_readDew 27 = .ok (.getfield 12, 3) := by decide +kernel
theorem dX4_readDew_30 : decode cX4_readDew 30 = .ok (.getfield 125, 3) := by decide +kernel
theorem dX4_readDew_33 : decode cX4_readDew 33 = .ok (.iload_n 1, 1) := by decide +kernel
theorem dX4_readDew_34 : decode cX4_readDew 34 = .ok (.aload_n 0, 1) := by decide +kernel
theorem dX4_readDew_35 : decode cX4_readDew 35 = .ok (.invokevirtual 109, 3) := by decide +kernel
theorem dX4_readDew_38 : decode cX4_readDew 38 = .ok (.iastore, 1) := by decide +kernel
theorem dX4_readDew_39 : decode cX4_readDew 39 = .ok (.iconst 1, 1) := by decide +kernel
theorem dX4_readDew_40 : decode cX4_readDew 40 = .ok (.ireturn, 1) := by decide +kernel
theorem dX4_takeCell_0 : decode cX4_takeCell 0 = .ok (.aload_n 0, 1) := by decide +kernel
theorem dX4_takeCell_1 : decode cX4_takeCell 1 = .ok (.iconst 0, 1) := by decide +kernel
theorem dX4_takeCell_2 : decode cX4_takeCell 2 = .ok (.aload_n 0, 1) := by decide +kernel
theorem dX4_takeCell_3 : decode cX4_takeCell 3 = .ok (.getfield 12, 3) := by decide +kernel
theorem dX4_takeCell_6 : decode cX4_takeCell 6 = .ok (.getfield 113, 3) := by decide +kernel
theorem dX4_takeCell_9 : decode cX4_takeCell 9 = .ok (.iconst 1, 1) := by decide +kernel
theorem dX4_takeCell_10 : decode cX4_takeCell 10 = .ok (.isub, 1) := by decide +kernel
theorem dX4_takeCell_11 : decode cX4_takeCell 11 = .ok (.invokevirtual 105, 3) := by decide +kernel
theorem dX4_takeCell_14 : decode cX4_takeCell 14 = .ok (.ifCond .ne 5, 3) := by decide +kernel
theorem dX4_takeCell_17 : decode cX4_takeCell 17 = .ok (.iconst (-1), 1) := by decide +kernel
theorem dX4_takeCell_18 : decode cX4_takeCell 18 = .ok (.ireturn, 1) := by decide +kernel
theorem dX4_takeCell_19 : decode cX4_takeCell 19 = .ok (.aload_n 0, 1) := by decide +kernel
theorem dX4_takeCell_20 : decode cX4_takeCell 20 = .ok (.invokevirtual 109, 3) := by decide +kernel
theorem dX4_takeCell_23 : decode cX4_takeCell 23 = .ok (.istore_n 1, 1) := by decide +kernel
theorem dX4_takeCell_24 : decode cX4_takeCell 24 = .ok (.aload_n 0, 1) := by decide +kernel
theorem dX4_takeCell_25 : decode cX4_takeCell 25 = .ok (.iconst 0, 1) := by decide +kernel
theorem dX4_takeCell_26 : decode cX4_takeCell 26 = .ok (.aload_n 0, 1) := by decide +kernel
theorem dX4_takeCell_27 : decode cX4_takeCell 27 = .ok (.getfield 12, 3) := by decide +kernel
theorem dX4_takeCell_30 : decode cX4_takeCell 30 = .ok (.getfield 116, 3) := by decide +kernel
theorem dX4_takeCell_33 : decode cX4_takeCell 33 = .ok (.iconst 1, 1) := by decide +kernel
theorem dX4_takeCell_34 : decode cX4_takeCell 34 = .ok (.isub, 1) := by decide +kernel
theorem dX4_takeCell_35 : decode cX4_takeCell 35 = .ok (.invokevirtual 105, 3) := by decide +kernel
theorem dX4_takeCell_38 : decode cX4_takeCell 38 = .ok (.ifCond .eq 18, 3) := by decide +kernel
theorem dX4_takeCell_41 : decode cX4_takeCell 41 = .ok (.aload_n 0, 1) := by decide +kernel
theorem dX4_takeCell_42 : decode cX4_takeCell 42 = .ok (.getfield 12, 3) := by decide +kernel
theorem dX4_takeCell_45 : decode cX4_takeCell 45 = .ok (.iload_n 1, 1) := by decide +kernel
theorem dX4_takeCell_46 : decode cX4_takeCell 46 = .ok (.aload_n 0, 1) := by decide +kernel
theorem dX4_takeCell_47 : decode cX4_takeCell 47 = .ok (.invokevirtual 109, 3) := by decide +kernel
theorem dX4_takeCell_50 : decode cX4_takeCell 50 = .ok (.invokevirtual 128, 3) := by decide +kernel
theorem dX4_takeCell_53 : decode cX4_takeCell 53 = .ok (.goto 4, 3) := by decide +kernel
theorem dX4_takeCell_56 : decode cX4_takeCell 56 = .ok (.iconst (-1), 1) := by decide +kernel
theorem dX4_takeCell_57 : decode cX4_takeCell 57 = .ok (.ireturn, 1) := by decide +kernel
theorem dX4_readPerson_0 : decode cX4_readPerson 0 = .ok (.aload_n 0, 1) := by decide +kernel
theorem dX4_readPerson_1 : decode cX4_readPerson 1 = .ok (.getfield 12, 3) := by decide +kernel
theorem dX4_readPerson_4 : decode cX4_readPerson 4 = .ok (.getfield 131, 3) := by decide +kernel
theorem dX4_readPerson_7 : decode cX4_readPerson 7 = .ok (.istore_n 2, 1) := by decide +kernel
theorem dX4_readPerson_8 : decode cX4_readPerson 8 = .ok (.iload_n 2, 1) := by decide +kernel
theorem dX4_readPerson_9 : decode cX4_readPerson 9 = .ok (.bipush 6, 2) := by decide +kernel
theorem dX4_readPerson_11 : decode cX4_readPerson 11 = .ok (.if_icmp .lt 10, 3) := by decide +kernel
theorem dX4_readPerson_14 : decode cX4_readPerson 14 = .ok (.aload_n 0, 1) := by decide +kernel
theorem dX4_readPerson_15 : decode cX4_readPerson 15 = .ok (.bipush 6, 2) := by decide +kernel
theorem dX4_readPerson_17 : decode cX4_readPerson 17 = .ok (.invokevirtual 64, 3) := by decide +kernel
theorem dX4_readPerson_20 : decode cX4_readPerson 20 = .ok (.ireturn, 1) := by decide +kernel
theorem dX4_readPerson_21 : decode cX4_readPerson 21 = .ok (.aload_n 0, 1) := by decide +kernel
theorem dX4_readPerson_22 : decode cX4_readPerson 22 = .ok (.invokevirtual 102, 3) := by decide +kernel
theorem dX4_readPerson_25 : decode cX4_readPerson 25 = .ok (.aload_n 0, 1) := by decide +kernel
theorem dX4_readPerson_26 : decode cX4_readPerson 26 = .ok (.getfield 22, 3) := by decide +kernel
theorem dX4_readPerson_29 : decode cX4_readPerson 29 = .ok (.aload_n 0, 1) := by decide +kernel
theorem dX4_readPerson_30 : decode cX4_readPerson 30 = .ok (.getfield 42, 3) := by decide +kernel
theorem dX4_readPerson_33 : decode cX4_readPerson 33 = .ok (.iaload, 1) := by decide +kernel
theorem dX4_readPerson_34 : decode cX4_readPerson 34 = .ok (.bipush 24, 2) := by decide +kernel
theorem dX4_readPerson_36 : decode cX4_readPerson 36 = .ok (.if_icmp .eq 8, 3) := by decide +kernel
theorem dX4_readPerson_39 : decode cX4_readPerson 39 = .ok (.aload_n 0, 1) := by decide +kernel
theorem dX4_readPerson_40 : decode cX4_readPerson 40 = .ok (.invokevirtual 75, 3) := by decide +kernel
theorem dX4_readPerson_43 : decode cX4_readPerson 43 = .ok (.ireturn, 1) := by decide +kernel
theorem dX4_readPerson_44 : decode cX4_readPerson 44 = .ok (.aload_n 0, 1) := by decide +kernel
theorem dX4_readPerson_45 : decode cX4_readPerson 45 = .ok (.iload_n 2, 1) := by decide +kernel
theorem dX4_readPerson_46 : decode cX4_readPerson 46 = .ok (.aload_n 1, 1) := by decide +kernel
theorem dX4_readPerson_47 : decode cX4_readPerson 47 = .ok (.invokevirtual 134, 3) := by decide +kernel
theorem dX4_readPerson_50 : decode cX4_readPerson 50 = .ok (.aload_n 0, 1) := by decide +kernel
theorem dX4_readPerson_51 : decode cX4_readPerson 51 = .ok (.iload_n 2, 1) := by decide +kernel
theorem dX4_readPerson_52 : decode cX4_readPerson 52 = .ok (.invokevirtual 138, 3) := by decide +kernel
theorem dX4_readPerson_55 : decode cX4_readPerson 55 = .ok (.ifCond .eq 9, 3) := by decide +kernel
theorem dX4_readPerson_58 : decode cX4_readPerson 58 = .ok (.aload_n 0, 1) := by decide +kernel
theorem dX4_readPerson_59 : decode cX4_readPerson 59 = .ok (.iconst 2, 1) := by decide +kernel
theorem dX4_readPerson_60 : decode cX4_readPerson 60 = .ok (.invokevirtual 64, 3) := by decide +kernel
theorem dX4_readPerson_63 : decode cX4_readPerson 63 = .ok (.ireturn, 1) := by decide +kernel
theorem dX4_readPerson_64 : decode cX4_readPerson 64 = .ok (.aload_n 0, 1) := by decide +kernel
theorem dX4_readPerson_65 : decode cX4_readPerson 65 = .ok (.invokevirtual 102, 3) := by decide +kernel
theorem dX4_readPerson_68 : decode cX4_readPerson 68 = .ok (.aload_n 0, 1) := by decide +kernel
theorem dX4_readPerson_69 : decode cX4_readPerson 69 = .ok (.iconst 4, 1) := by decide +kernel
theorem dX4_readPerson_70 : decode cX4_readPerson 70 = .ok (.invokevirtual 72, 3) := by decide +kernel
theorem dX4_readPerson_73 : decode cX4_readPerson 73 = .ok (.ifCond .ne 5, 3) := by decide +kernel
theorem dX4_readPerson_76 : decode cX4_readPerson 76 = .ok (.iconst 0, 1) := by decide +kernel
theorem dX4_readPerson_77 : decode cX4_readPerson 77 = .ok (.ireturn, 1) := by decide +kernel
theorem dX4_readPerson_78 : decode cX4_readPerson 78 = .ok (.aload_n 0, 1) := by decide +kernel
theorem dX4_readPerson_79 : decode cX4_readPerson 79 = .ok (.getfield 12, 3) := by decide +kernel
theorem dX4_readPerson_82 : decode cX4_readPerson 82 = .ok (.getfield 141, 3) := by decide +kernel
theorem dX4_readPerson_85 : decode cX4_readPerson 85 = .ok (.iload_n 2, 1) := by decide +kernel
theorem dX4_readPerson_86 : decode cX4_readPerson 86 = .ok (.aload_n 0, 1) := by decide +kernel
theorem dX4_readPerson_87 : decode cX4_readPerson 87 = .ok (.invokevirtual 122, 3) := by decide +kernel
theorem dX4_readPerson_90 : decode cX4_readPerson 90 = .ok (.iastore, 1) := by decide +kernel
theorem dX4_readPerson_91 : decode cX4_readPerson 91 = .ok (.aload_n 0, 1) := by decide +kernel
theorem dX4_readPerson_92 : decode cX4_readPerson 92 = .ok (.getfield 12, 3) := by decide +kernel
theorem dX4_readPerson_95 : decode cX4_readPerson 95 = .ok (.getfield 141, 3) := by decide +kernel
theorem dX4_readPerson_98 : decode cX4_readPerson 98 = .ok (.iload_n 2, 1) := by decide +kernel
theorem dX4_readPerson_99 : decode cX4_readPerson 99 = .ok (.iaload, 1) := by decide +kernel
theorem dX4_readPerson_100 : decode cX4_readPerson 100 = .ok (.iconst (-1), 1) := by decide +kernel
theorem dX4_readPerson_101 : decode cX4_readPerson 101 = .ok (.if_icmp .eq 21, 3) := by decide +kernel
theorem dX4_readPerson_104 : decode cX4_readPerson 104 = .ok (.aload_n 0, 1) := by decide +kernel
theorem dX4_readPerson_105 : decode cX4_readPerson 105 = .ok (.iconst 5, 1) := by decide +kernel
theorem dX4_readPerson_106 : decode cX4_readPerson 106 = .ok (.invokevirtual 72, 3) := by decide +kernel
theorem dX4_readPerson_109 : decode cX4_readPerson 109 = .ok (.ifCond .eq 13, 3) := by decide +kernel
theorem dX4_readPerson_112 : decode cX4_readPerson 112 = .ok (.aload_n 0, 1) := by decide +kernel
theorem dX4_readPerson_113 : decode cX4_readPerson 113 = .ok (.iconst 0, 1) := by decide +kernel
theorem dX4_readPerson_114 : decode cX4_readPerson 114 = .ok (.bipush 8, 2) := by decide +kernel
theorem dX4_readPerson_116 : decode cX4_readPerson 116 = .ok (.invokevirtual 105, 3) := by decide +kernel
theorem dX4_readPerson_119 : decode cX4_readPerson 119 = .ok (.ifCond .ne 5, 3) := by decide +kernel
theorem dX4_readPerson_122 : decode cX4_readPerson 122 = .ok (.iconst 0, 1) := by decide +kernel
theorem dX4_readPerson_123 : decode cX4_readPerson 123 = .ok (.ireturn, 1) := by decide +kernel
theorem dX4_readPerson_124 : decode cX4_readPerson 124 = .ok (.aload_n 0, 1) := by decide +kernel
theorem dX4_readPerson_125 : decode cX4_readPerson 125 = .ok (.getfield 12, 3) := by decide +kernel
theorem dX4_readPerson_128 : decode cX4_readPerson 128 = .ok (.getfield 144, 3) := by decide +kernel
theorem dX4_readPerson_131 : decode cX4_readPerson 131 = .ok (.iload_n 2, 1) := by decide +kernel
theorem dX4_readPerson_132 : decode cX4_readPerson 132 = .ok (.aload_n 0, 1) := by decide +kernel
theorem dX4_readPerson_133 : decode cX4_readPerson 133 = .ok (.invokevirtual 109, 3) := by decide +kernel
theorem dX4_readPerson_136 : decode cX4_readPerson 136 = .ok (.iastore, 1) := by decide +kernel
theorem dX4_readPerson_137 : decode cX4_readPerson 137 = .ok (.aload_n 0, 1) := by decide +kernel
theorem dX4_readPerson_138 : decode cX4_readPerson 138 = .ok (.bipush 6, 2) := by decide +kernel
theorem dX4_readPerson_140 : decode cX4_readPerson 140 = .ok (.invokevirtual 72, 3) := by decide +kernel
theorem dX4_readPerson_143 : decode cX4_readPerson 143 = .ok (.ifCond .eq 13, 3) := by decide +kernel
theorem dX4_readPerson_146 : decode cX4_readPerson 146 = .ok (.aload_n 0, 1) := by decide +kernel
theorem dX4_readPerson_147 : decode cX4_readPerson 147 = .ok (.iconst 1, 1) := by decide +kernel
theorem dX4_readPerson_148 : decode cX4_readPerson 148 = .ok (.bipush 99, 2) := by decide +kernel
theorem dX4_readPerson_150 : decode cX4_readPerson 150 = .ok (.invokevirtual 105, 3) := by decide +kernel
theorem dX4_readPerson_153 : decode cX4_readPerson 153 = .ok (.ifCond .ne 5, 3) := by decide +kernel
theorem dX4_readPerson_156 : decode cX4_readPerson 156 = .ok (.iconst 0, 1) := by decide +kernel
theorem dX4_readPerson_157 : decode cX4_readPerson 157 = .ok (.ireturn, 1) := by decide +kernel
theorem dX4_readPerson_158 : decode cX4_readPerson 158 = .ok (.aload_n 0, 1) := by decide +kernel
theorem dX4_readPerson_159 : decode cX4_readPerson 159 = .ok (.getfield 12, 3) := by decide +kernel
theorem dX4_readPerson_162 : decode cX4_readPerson 162 = .ok (.getfield 147, 3) := by decide +kernel
theorem dX4_readPerson_165 : decode cX4_readPerson 165 = .ok (.iload_n 2, 1) := by decide +kernel
theorem dX4_readPerson_166 : decode cX4_readPerson 166 = .ok (.aload_n 0, 1) := by decide +kernel
theorem dX4_readPerson_167 : decode cX4_readPerson 167 = .ok (.invokevirtual 109, 3) := by decide +kernel
theorem dX4_readPerson_170 : decode cX4_readPerson 170 = .ok (.iastore, 1) := by decide +kernel
theorem dX4_readPerson_171 : decode cX4_readPerson 171 = .ok (.aload_n 0, 1) := by decide +kernel
theorem dX4_readPerson_172 : decode cX4_readPerson 172 = .ok (.bipush 7, 2) := by decide +kernel
theorem dX4_readPerson_174 : decode cX4_readPerson 174 = .ok (.invokevirtual 72, 3) := by decide +kernel
theorem dX4_readPerson_177 : decode cX4_readPerson 177 = .ok (.ifCond .eq 13, 3) := by decide +kernel
theorem dX4_readPerson_180 : decode cX4_readPerson 180 = .ok (.aload_n 0, 1) := by decide +kernel
theorem dX4_readPerson_181 : decode cX4_readPerson 181 = .ok (.iconst 0, 1) := by decide +kernel
theorem dX4_readPerson_182 : decode cX4_readPerson 182 = .ok (.bipush 99, 2) := by decide +kernel
theorem dX4_readPerson_184 : decode cX4_readPerson 184 = .ok (.invokevirtual 105, 3) := by decide +kernel
theorem dX4_readPerson_187 : decode cX4_readPerson 187 = .ok (.ifCond .ne 5, 3) := by decide +kernel
theorem dX4_readPerson_190 : decode cX4_readPerson 190 = .ok (.iconst 0, 1) := by decide +kernel
theorem dX4_readPerson_191 : decode cX4_readPerson 191 = .ok (.ireturn, 1) := by decide +kernel
theorem dX4_readPerson_192 : decode cX4_readPerson 192 = .ok (.aload_n 0, 1) := by decide +kernel
theorem dX4_readPerson_193 : decode cX4_readPerson 193 = .ok (.getfield 12, 3) := by decide +kernel
theorem dX4_readPerson_196 : decode cX4_readPerson 196 = .ok (.getfield 150, 3) := by decide +kernel
theorem dX4_readPerson_199 : decode cX4_readPerson 199 = .ok (.iload_n 2, 1) := by decide +kernel
theorem dX4_readPerson_200 : decode cX4_readPerson 200 = .ok (.aload_n 0, 1) := by decide +kernel
theorem dX4_readPerson_201 : decode cX4_readPerson 201 = .ok (.invokevirtual 109, 3) := by decide +kernel
theorem dX4_readPerson_204 : decode cX4_readPerson 204 = .ok (.iastore, 1) := by decide +kernel
theorem dX4_readPerson_205 : decode cX4_readPerson 205 = .ok (.aload_n 0, 1) := by decide +kernel
theorem dX4_readPerson_206 : decode cX4_readPerson 206 = .ok (.getfield 12, 3) := by decide +kernel
theorem dX4_readPerson_209 : decode cX4_readPerson 209 = .ok (.dup, 1) := by decide +kernel
theorem dX4_readPerson_210 : decode cX4_readPerson 210 = .ok (.getfield 131, 3) := by decide +kernel
theorem dX4_readPerson_213 : decode cX4_readPerson 213 = .ok (.iconst 1, 1) := by decide +kernel
theorem dX4_readPerson_214 : decode cX4_readPerson 214 = .ok (.iadd, 1) := by decide +kernel
theorem dX4_readPerson_215 : decode cX4_readPerson 215 = .ok (.putfield 131, 3) := by decide +kernel
theorem dX4_readPerson_218 : decode cX4_readPerson 218 = .ok (.iconst 1, 1) := by decide +kernel
theorem dX4_readPerson_219 : decode cX4_readPerson 219 = .ok (.ireturn, 1) := by decide +kernel
theorem dX4_writeName_0 : decode cX4_writeName 0 = .ok (.aload_n 0, 1) := by decide +kernel
theorem dX4_writeName_1 : decode cX4_writeName 1 = .ok (.getfield 26, 3) := by decide +kernel
theorem dX4_writeName_4 : decode cX4_writeName 4 = .ok (.aload_n 0, 1) := by decide +kernel
theorem dX4_writeName_5 : decode cX4_writeName 5 = .ok (.getfield 42, 3) := by decide +kernel
theorem dX4_writeName_8 : decode cX4_writeName 8 = .ok (.iaload, 1) := by decide +kernel
theorem dX4_writeName_9 : decode cX4_writeName 9 = .ok (.istore_n 3, 1) := by decide +kernel
theorem dX4_writeName_10 : decode cX4_writeName 10 = .ok (.aload_n 0, 1) := by decide +kernel
theorem dX4_writeName_11 : decode cX4_writeName 11 = .ok (.getfield 29, 3) := by decide +kernel
theorem dX4_writeName_14 : decode cX4_writeName 14 = .ok (.aload_n 0, 1) := by decide +kernel
theorem dX4_writeName_15 : decode cX4_writeName 15 = .ok (.getfield 42, 3) := by decide +kernel
theorem dX4_writeName_18 : decode cX4_writeName 18 = .ok (.iaload, 1) := by decide +kernel
theorem dX4_writeName_19 : decode cX4_writeName 19 = .ok (.istore 4, 2) := by decide +kernel
theorem dX4_writeName_21 : decode cX4_writeName 21 = .ok (.iconst 0, 1) := by decide +kernel
theorem dX4_writeName_22 : decode cX4_writeName 22 = .ok (.istore 5, 2) := by decide +kernel
theorem dX4_writeName_24 : decode cX4_writeName 24 = .ok (.iload 5, 2) := by decide +kernel
theorem dX4_writeName_26 : decode cX4_writeName 26 = .ok (.bipush 6, 2) := by decide +kernel
theorem dX4_writeName_28 : decode cX4_writeName 28 = .ok (.if_icmp .ge 67, 3) := by decide +kernel
theorem dX4_writeName_31 : decode cX4_writeName 31 = .ok (.iload 5, 2) := by decide +kernel
theorem dX4_writeName_33 : decode cX4_writeName 33 = .ok (.iload 4, 2) := by decide +kernel
theorem dX4_writeName_35 : decode cX4_writeName 35 = .ok (.if_icmp .ge 16, 3) := by decide +kernel
theorem dX4_writeName_38 : decode cX4_writeName 38 = .ok (.iload_n 3, 1) := by decide +kernel
theorem dX4_writeName_39 : decode cX4_writeName 39 = .ok (.iload 5, 2) := by decide +kernel
theorem dX4_writeName_41 : decode cX4_writeName 41 = .ok (.iadd, 1) := by decide +kernel
theorem dX4_writeName_42 : decode cX4_writeName 42 = .ok (.aload_n 2, 1) := by decide +kernel
theorem dX4_writeName_43 : decode cX4_writeName 43 = .ok (.arraylength, 1) := by decide +kernel
theorem dX4_writeName_44 : decode cX4_writeName 44 = .ok (.if_icmp .ge 7, 3) := by decide +kernel
theorem dX4_writeName_47 : decode cX4_writeName 47 = .ok (.iconst 1, 1) := by decide +kernel
theorem dX4_writeName_48 : decode cX4_writeName 48 = .ok (.goto 4, 3) := by decide +kernel
theorem dX4_writeName_51 : decode cX4_writeName 51 = .ok (.iconst 0, 1) := by decide +kernel
theorem dX4_writeName_52 : decode cX4_writeName 52 = .ok (.istore 6, 2) := by decide +kernel
theorem dX4_writeName_54 : decode cX4_writeName 54 = .ok (.aload_n 0, 1) := by decide +kernel
theorem dX4_writeName_55 : decode cX4_writeName 55 = .ok (.getfield 12, 3) := by decide +kernel
theorem dX4_writeName_58 : decode cX4_writeName 58 = .ok (.getfield 153, 3) := by decide +kernel
theorem dX4_writeName_61 : decode cX4_writeName 61 = .ok (.iload_n 1, 1) := by decide +kernel
theorem dX4_writeName_62 : decode cX4_writeName 62 = .ok (.bipush 6, 2) := by decide +kernel
theorem dX4_writeName_64 : decode cX4_writeName 64 = .ok (.imul, 1) := by decide +kernel
theorem dX4_writeName_65 : decode cX4_writeName 65 = .ok (.iload 5, 2) := by decide +kernel
theorem dX4_writeName_67 : decode cX4_writeName 67 = .ok (.iadd, 1) := by decide +kernel
theorem dX4_writeName_68 : decode cX4_writeName 68 = .ok (.iload 6, 2) := by decide +kernel
theorem dX4_writeName_70 : decode cX4_writeName 70 = .ok (.ifCond .eq 17, 3) := by decide +kernel
theorem dX4_writeName_73 : decode cX4_writeName 73 = .ok (.aload_n 2, 1) := by decide +kernel
theorem dX4_writeName_74 : decode cX4_writeName 74 = .ok (.iload_n 3, 1) := by decide +kernel
theorem dX4_writeName_75 : decode cX4_writeName 75 = .ok (.iload 5, 2) := by decide +kernel
theorem dX4_writeName_77 : decode cX4_writeName 77 = .ok (.iadd, 1) := by decide +kernel
theorem dX4_writeName_78 : decode cX4_writeName 78 = .ok (.iaload, 1) := by decide +kernel
theorem dX4_writeName_79 : decode cX4_writeName 79 = .ok (.bipush 97, 2) := by decide +kernel
theorem dX4_writeName_81 : decode cX4_writeName 81 = .ok (.isub, 1) := by decide +kernel
theorem dX4_writeName_82 : decode cX4_writeName 82 = .ok (.iconst 1, 1) := by decide +kernel
theorem dX4_writeName_83 : decode cX4_writeName 83 = .ok (.iadd, 1) := by decide +kernel
theorem dX4_writeName_84 : decode cX4_writeName 84 = .ok (.goto 4, 3) := by decide +kernel
theorem dX4_writeName_87 : decode cX4_writeName 87 = .ok (.iconst 0, 1) := by decide +kernel
theorem dX4_writeName_88 : decode cX4_writeName 88 = .ok (.iastore, 1) := by decide +kernel
theorem dX4_writeName_89 : decode cX4_writeName 89 = .ok (.iinc 5 1, 3) := by decide +kernel
theorem dX4_writeName_92 : decode cX4_writeName 92 = .ok (.goto (-68), 3) := by decide +kernel
theorem dX4_writeName_95 : decode cX4_writeName 95 = .ok (.return_, 1) := by decide +kernel
theorem dX4_isThereAlready_0 : decode cX4_isThereAlready 0 = .ok (.iconst 0, 1) := by decide +kernel
theorem dX4_isThereAlready_1 : decode cX4_isThereAlready 1 = .ok (.istore_n 2, 1) := by decide +kernel
theorem dX4_isThereAlready_2 : decode cX4_isThereAlready 2 = .ok (.iload_n 2, 1) := by decide +kernel
theorem dX4_isThereAlready_3 : decode cX4_isThereAlready 3 = .ok (.iload_n 1, 1) := by decide +kernel
theorem dX4_isThereAlready_4 : decode cX4_isThereAlready 4 = .ok (.if_icmp .ge 76, 3) := by decide +kernel
theorem dX4_isThereAlready_7 : decode cX4_isThereAlready 7 = .ok (.iconst 1, 1) := by decide +kernel
theorem dX4_isThereAlready_8 : decode cX4_isThereAlready 8 = .ok (.istore_n 3, 1) := by decide +kernel
theorem dX4_isThereAlready_9 : decode cX4_isThereAlready 9 = .ok (.iconst 0, 1) := by decide +kernel
theorem dX4_isThereAlready_10 : decode cX4_isThereAlready 10 = .ok (.istore 4, 2) := by decide +kernel
theorem dX4_isThereAlready_12 : decode cX4_isThereAlready 12 = .ok (.iload 4, 2) := by decide +kernel
theorem dX4_isThereAlready_14 : decode cX4_isThereAlready 14 = .ok (.bipush 6, 2) := by decide +kernel
theorem dX4_isThereAlready_16 : decode cX4_isThereAlready 16 = .ok (.if_icmp .ge 52, 3) := by decide +kernel
theorem dX4_isThereAlready_19 : decode cX4_isThereAlready 19 = .ok (.iload_n 3, 1) := by decide +kernel
theorem dX4_isThereAlready_20 : decode cX4_isThereAlready 20 = .ok (.ifCond .eq 40, 3) := by decide +kernel
theorem dX4_isThereAlready_23 : decode cX4_isThereAlready 23 = .ok (.aload_n 0, 1) := by decide +kernel
theorem dX4_isThereAlready_24 : decode cX4_isThereAlready 24 = .ok (.getfield 12, 3) := by decide +kernel
theorem dX4_isThereAlready_27 : decode cX4_isThereAlready 27 = .ok (.getfield 153, 3) := by decide +kernel
theorem dX4_isThereAlready_30 : decode cX4_isThereAlready 30 = .ok (.iload_n 2, 1) := by decide +kernel
theorem dX4_isThereAlready_31 : decode cX4_isThereAlready 31 = .ok (.bipush 6, 2) := by decide +kernel
theorem dX4_isThereAlready_33 : decode cX4_isThereAlready 33 = .ok (.imul, 1) := by decide +kernel
theorem dX4_isThereAlready_34 : decode cX4_isThereAlready 34 = .ok (.iload 4, 2) := by decide +kernel
theorem dX4_isThereAlready_36 : decode cX4_isThereAlready 36 = .ok (.iadd, 1) := by decide +kernel
theorem dX4_isThereAlready_37 : decode cX4_isThereAlready 37 = .ok (.iaload, 1) := by decide +kernel
theorem dX4_isThereAlready_38 : decode cX4_isThereAlready 38 = .ok (.aload_n 0, 1) := by decide +kernel
theorem dX4_isThereAlready_39 : decode cX4_isThereAlready 39 = .ok (.getfield 12, 3) := by decide +kernel
theorem dX4_isThereAlready_42 : decode cX4_isThereAlready 42 = .ok (.getfield 153, 3) := by decide +kernel
theorem dX4_isThereAlready_45 : decode cX4_isThereAlready 45 = .ok (.iload_n 1, 1) := by decide +kernel
theorem dX4_isThereAlready_46 : decode cX4_isThereAlready 46 = .ok (.bipush 6, 2) := by decide +kernel
theorem dX4_isThereAlready_48 : decode cX4_isThereAlready 48 = .ok (.imul, 1) := by decide +kernel
theorem dX4_isThereAlready_49 : decode cX4_isThereAlready 49 = .ok (.iload 4, 2) := by decide +kernel
theorem dX4_isThereAlready_51 : decode cX4_isThereAlready 51 = .ok (.iadd, 1) := by decide +kernel
theorem dX4_isThereAlready_52 : decode cX4_isThereAlready 52 = .ok (.iaload, 1) := by decide +kernel
theorem dX4_isThereAlready_53 : decode cX4_isThereAlready 53 = .ok (.if_icmp .ne 7, 3) := by decide +kernel
theorem dX4_isThereAlready_56 : decode cX4_isThereAlready 56 = .ok (.iconst 1, 1) := by decide +kernel
theorem dX4_isThereAlready_57 : decode cX4_isThereAlready 57 = .ok (.goto 4, 3) := by decide +kernel
theorem dX4_isThereAlready_60 : decode cX4_isThereAlready 60 = .ok (.iconst 0, 1) := by decide +kernel
theorem dX4_isThereAlready_61 : decode cX4_isThereAlready 61 = .ok (.istore_n 3, 1) := by decide +kernel
theorem dX4_isThereAlready_62 : decode cX4_isThereAlready 62 = .ok (.iinc 4 1, 3) := by decide +kernel
theorem dX4_isThereAlready_65 : decode cX4_isThereAlready 65 = .ok (.goto (-53), 3) := by decide +kernel
theorem dX4_isThereAlready_68 : decode cX4_isThereAlready 68 = .ok (.iload_n 3, 1) := by decide +kernel
theorem dX4_isThereAlready_69 : decode cX4_isThereAlready 69 = .ok (.ifCond .eq 5, 3) := by decide +kernel
theorem dX4_isThereAlready_72 : decode cX4_isThereAlready 72 = .ok (.iconst 1, 1) := by decide +kernel
theorem dX4_isThereAlready_73 : decode cX4_isThereAlready 73 = .ok (.ireturn, 1) := by decide +kernel
theorem dX4_isThereAlready_74 : decode cX4_isThereAlready 74 = .ok (.iinc 2 1, 3) := by decide +kernel
theorem dX4_isThereAlready_77 : decode cX4_isThereAlready 77 = .ok (.goto (-75), 3) := by decide +kernel
theorem dX4_isThereAlready_80 : decode cX4_isThereAlready 80 = .ok (.iconst 0, 1) := by decide +kernel
theorem dX4_isThereAlready_81 : decode cX4_isThereAlready 81 = .ok (.ireturn, 1) := by decide +kernel
theorem dX4_readLaw_0 : decode cX4_readLaw 0 = .ok (.aload_n 2, 1) := by decide +kernel
theorem dX4_readLaw_1 : decode cX4_readLaw 1 = .ok (.invokevirtual 156, 3) := by decide +kernel
theorem dX4_readLaw_4 : decode cX4_readLaw 4 = .ok (.ifCond .eq 10, 3) := by decide +kernel
theorem dX4_readLaw_7 : decode cX4_readLaw 7 = .ok (.aload_n 0, 1) := by decide +kernel
theorem dX4_readLaw_8 : decode cX4_readLaw 8 = .ok (.bipush 6, 2) := by decide +kernel
theorem dX4_readLaw_10 : decode cX4_readLaw 10 = .ok (.invokevirtual 64, 3) := by decide +kernel
theorem dX4_readLaw_13 : decode cX4_readLaw 13 = .ok (.ireturn, 1) := by decide +kernel
theorem dX4_readLaw_14 : decode cX4_readLaw 14 = .ok (.aload_n 0, 1) := by decide +kernel
theorem dX4_readLaw_15 : decode cX4_readLaw 15 = .ok (.iload_n 1, 1) := by decide +kernel
theorem dX4_readLaw_16 : decode cX4_readLaw 16 = .ok (.putfield 161, 3) := by decide +kernel
theorem dX4_readLaw_19 : decode cX4_readLaw 19 = .ok (.aload_n 0, 1) := by decide +kernel
theorem dX4_readLaw_20 : decode cX4_readLaw 20 = .ok (.aload_n 2, 1) := by decide +kernel
theorem dX4_readLaw_21 : decode cX4_readLaw 21 = .ok (.putfield 36, 3) := by decide +kernel
theorem dX4_readLaw_24 : decode cX4_readLaw 24 = .ok (.aload_n 0, 1) := by decide +kernel
theorem dX4_readLaw_25 : decode cX4_readLaw 25 = .ok (.invokevirtual 102, 3) := by decide +kernel
theorem dX4_readLaw_28 : decode cX4_readLaw 28 = .ok (.aload_n 0, 1) := by decide +kernel
theorem dX4_readLaw_29 : decode cX4_readLaw 29 = .ok (.invokevirtual 164, 3) := by decide +kernel
theorem dX4_readLaw_32 : decode cX4_readLaw 32 = .ok (.ireturn, 1) := by decide +kernel
theorem dX4_readMist_0 : decode cX4_readMist 0 = .ok (.aload_n 0, 1) := by decide +kernel
theorem dX4_readMist_1 : decode cX4_readMist 1 = .ok (.invokevirtual 102, 3) := by decide +kernel
theorem dX4_readMist_4 : decode cX4_readMist 4 = .ok (.aload_n 0, 1) := by decide +kernel
theorem dX4_readMist_5 : decode cX4_readMist 5 = .ok (.iconst 0, 1) := by decide +kernel
theorem dX4_readMist_6 : decode cX4_readMist 6 = .ok (.bipush 100, 2) := by decide +kernel
theorem dX4_readMist_8 : decode cX4_readMist 8 = .ok (.invokevirtual 105, 3) := by decide +kernel
theorem dX4_readMist_11 : decode cX4_readMist 11 = .ok (.ifCond .ne 5, 3) := by decide +kernel
theorem dX4_readMist_14 : decode cX4_readMist 14 = .ok (.iconst 0, 1) := by decide +kernel
theorem dX4_readMist_15 : decode cX4_readMist 15 = .ok (.ireturn, 1) := by decide +kernel
theorem dX4_readMist_16 : decode cX4_readMist 16 = .ok (.aload_n 0, 1) := by decide +kernel
theorem dX4_readMist_17 : decode cX4_readMist 17 = .ok (.getfield 12, 3) := by decide +kernel
theorem dX4_readMist_20 : decode cX4_readMist 20 = .ok (.aload_n 0, 1) := by decide +kernel
theorem dX4_readMist_21 : decode cX4_readMist 21 = .ok (.invokevirtual 109, 3) := by decide +kernel
theorem dX4_readMist_24 : decode cX4_readMist 24 = .ok (.putfield 167, 3) := by decide +kernel
theorem dX4_readMist_27 : decode cX4_readMist 27 = .ok (.iconst 1, 1) := by decide +kernel
theorem dX4_readMist_28 : decode cX4_readMist 28 = .ok (.ireturn, 1) := by decide +kernel
theorem dX4_readSum_0 : decode cX4_readSum 0 = .ok (.aload_n 0, 1) := by decide +kernel
theorem dX4_readSum_1 : decode cX4_readSum 1 = .ok (.invokevirtual 170, 3) := by decide +kernel
theorem dX4_readSum_4 : decode cX4_readSum 4 = .ok (.ifCond .ne 5, 3) := by decide +kernel
theorem dX4_readSum_7 : decode cX4_readSum 7 = .ok (.iconst 0, 1) := by decide +kernel
theorem dX4_readSum_8 : decode cX4_readSum 8 = .ok (.ireturn, 1) := by decide +kernel
theorem dX4_readSum_9 : decode cX4_readSum 9 = .ok (.iconst 0, 1) := by decide +kernel
theorem dX4_readSum_10 : decode cX4_readSum 10 = .ok (.istore_n 1, 1) := by decide +kernel
theorem dX4_readSum_11 : decode cX4_readSum 11 = .ok (.iload_n 1, 1) := by decide +kernel
theorem dX4_readSum_12 : decode cX4_readSum 12 = .ok (.sipush 1600, 3) := by decide +kernel
theorem dX4_readSum_15 : decode cX4_readSum 15 = .ok (.if_icmp .ge 79, 3) := by decide +kernel
theorem dX4_readSum_18 : decode cX4_readSum 18 = .ok (.aload_n 0, 1) := by decide +kernel
theorem dX4_readSum_19 : decode cX4_readSum 19 = .ok (.getfield 22, 3) := by decide +kernel
theorem dX4_readSum_22 : decode cX4_readSum 22 = .ok (.aload_n 0, 1) := by decide +kernel
theorem dX4_readSum_23 : decode cX4_readSum 23 = .ok (.getfield 42, 3) := by decide +kernel
theorem dX4_readSum_26 : decode cX4_readSum 26 = .ok (.iaload, 1) := by decide +kernel
theorem dX4_readSum_27 : decode cX4_readSum 27 = .ok (.bipush 43, 2) := by decide +kernel
theorem dX4_readSum_29 : decode cX4_readSum 29 = .ok (.if_icmp .eq 17, 3) := by decide +kernel
theorem dX4_readSum_32 : decode cX4_readSum 32 = .ok (.aload_n 0, 1) := by decide +kernel
theorem dX4_readSum_33 : decode cX4_readSum 33 = .ok (.getfield 22, 3) := by decide +kernel
theorem dX4_readSum_36 : decode cX4_readSum 36 = .ok (.aload_n 0, 1) := by decide +kernel
theorem dX4_readSum_37 : decode cX4_readSum 37 = .ok (.getfield 42, 3) := by decide +kernel
theorem dX4_readSum_40 : decode cX4_readSum 40 = .ok (.iaload, 1) := by decide +kernel
theorem dX4_readSum_41 : decode cX4_readSum 41 = .ok (.bipush 45, 2) := by decide +kernel
theorem dX4_readSum_43 : decode cX4_readSum 43 = .ok (.if_icmp .ne 51, 3) := by decide +kernel
theorem dX4_readSum_46 : decode cX4_readSum 46 = .ok (.aload_n 0, 1) := by decide +kernel
theorem dX4_readSum_47 : decode cX4_readSum 47 = .ok (.getfield 22, 3) := by decide +kernel
theorem dX4_readSum_50 : decode cX4_readSum 50 = .ok (.aload_n 0, 1) := by decide +kernel
theorem dX4_readSum_51 : decode cX4_readSum 51 = .ok (.getfield 42, 3) := by decide +kernel
theorem dX4_readSum_54 : decode cX4_readSum 54 = .ok (.iaload, 1) := by decide +kernel
theorem dX4_readSum_55 : decode cX4_readSum 55 = .ok (.bipush 43, 2) := by decide +kernel
theorem dX4_readSum_57 : decode cX4_readSum 57 = .ok (.if_icmp .ne 7, 3) := by decide +kernel
theorem dX4_readSum_60 : decode cX4_readSum 60 = .ok (.iconst 4, 1) := by decide +kernel
theorem dX4_readSum_61 : decode cX4_readSum 61 = .ok (.goto 4, 3) := by decide +kernel
theorem dX4_readSum_64 : decode cX4_readSum 64 = .ok (.iconst 5, 1) := by decide +kernel
theorem dX4_readSum_65 : decode cX4_readSum 65 = .ok (.istore_n 2, 1) := by decide +kernel
theorem dX4_readSum_66 : decode cX4_readSum 66 = .ok (.aload_n 0, 1) := by decide +kernel
theorem dX4_readSum_67 : decode cX4_readSum 67 = .ok (.invokevirtual 102, 3) := by decide +kernel
theorem dX4_readSum_70 : decode cX4_readSum 70 = .ok (.aload_n 0, 1) := by decide +kernel
theorem dX4_readSum_71 : decode cX4_readSum 71 = .ok (.invokevirtual 170, 3) := by decide +kernel
theorem dX4_readSum_74 : decode cX4_readSum 74 = .ok (.ifCond .ne 5, 3) := by decide +kernel
theorem dX4_readSum_77 : decode cX4_readSum 77 = .ok (.iconst 0, 1) := by decide +kernel
theorem dX4_readSum_78 : decode cX4_readSum 78 = .ok (.ireturn, 1) := by decide +kernel
theorem dX4_readSum_79 : decode cX4_readSum 79 = .ok (.aload_n 0, 1) := by decide +kernel
theorem dX4_readSum_80 : decode cX4_readSum 80 = .ok (.getfield 36, 3) := by decide +kernel
theorem dX4_readSum_83 : decode cX4_readSum 83 = .ok (.iload_n 2, 1) := by decide +kernel
theorem dX4_readSum_84 : decode cX4_readSum 84 = .ok (.iconst 0, 1) := by decide +kernel
theorem dX4_readSum_85 : decode cX4_readSum 85 = .ok (.invokevirtual 173, 3) := by decide +kernel
theorem dX4_readSum_88 : decode cX4_readSum 88 = .ok (.iinc 1 1, 3) := by decide +kernel
theorem dX4_readSum_91 : decode cX4_readSum 91 = .ok (.goto (-80), 3) := by decide +kernel
theorem dX4_readSum_94 : decode cX4_readSum 94 = .ok (.iconst 1, 1) := by decide +kernel
theorem dX4_readSum_95 : decode cX4_readSum 95 = .ok (.ireturn, 1) := by decide +kernel
theorem dX4_readProduct_0 : decode cX4_readProduct 0 = .ok (.aload_n 0, 1) := by decide +kernel
theorem dX4_readProduct_1 : decode cX4_readProduct 1 = .ok (.invokevirtual 177, 3) := by decide +kernel
theorem dX4_readProduct_4 : decode cX4_readProduct 4 = .ok (.ifCond .ne 5, 3) := by decide +kernel
theorem dX4_readProduct_7 : decode cX4_readProduct 7 = .ok (.iconst 0, 1) := by decide +kernel
theorem dX4_readProduct_8 : decode cX4_readProduct 8 = .ok (.ireturn, 1) := by decide +kernel
theorem dX4_readProduct_9 : decode cX4_readProduct 9 = .ok (.iconst 0, 1) := by decide +kernel
theorem dX4_readProduct_10 : decode cX4_readProduct 10 = .ok (.istore_n 1, 1) := by decide +kernel
theorem dX4_readProduct_11 : decode cX4_readProduct 11 = .ok (.iload_n 1, 1) := by decide +kernel
theorem dX4_readProduct_12 : decode cX4_readProduct 12 = .ok (.sipush 1600, 3) := by decide +kernel
theorem dX4_readProduct_15 : decode cX4_readProduct 15 = .ok (.if_icmp .ge 87, 3) := by decide +kernel
theorem dX4_readProduct_18 : decode cX4_readProduct 18 = .ok (.aload_n 0, 1) := by decide +kernel
theorem dX4_readProduct_19 : decode cX4_readProduct 19 = .ok (.getfield 22, 3) := by decide +kernel
theorem dX4_readProduct_22 : decode cX4_readProduct 22 = .ok (.aload_n 0, 1) := by decide +kernel
theorem dX4_readProduct_23 : decode cX4_readProduct 23 = .ok (.getfield 42, 3) := by decide +kernel
theorem dX4_readProduct_26 : decode cX4_readProduct 26 = .ok (.iaload, 1) := by decide +kernel
theorem dX4_readProduct_27 : decode cX4_readProduct 27 = .ok (.invokestatic 180, 3) := by decide +kernel
theorem dX4_readProduct_30 : decode cX4_readProduct 30 = .ok (.ifCond .eq 72, 3) := by decide +kernel
theorem dX4_readProduct_33 : decode cX4_readProduct 33 = .ok (.aload_n 0, 1) := by decide +kernel
theorem dX4_readProduct_34 : decode cX4_readProduct 34 = .ok (.getfield 22, 3) := by decide +kernel
theorem dX4_readProduct_37 : decode cX4_readProduct 37 = .ok (.aload_n 0, 1) := by decide +kernel
theorem dX4_readProduct_38 : decode cX4_readProduct 38 = .ok (.getfield 42, 3) := by decide +kernel
theorem dX4_readProduct_41 : decode cX4_readProduct 41 = .ok (.iaload, 1) := by decide +kernel
theorem dX4_readProduct_42 : decode cX4_readProduct 42 = .ok (.bipush 42, 2) := by decide +kernel
theorem dX4_readProduct_44 : decode cX4_readProduct 44 = .ok (.if_icmp .ne 8, 3) := by decide +kernel
theorem dX4_readProduct_47 : decode cX4_readProduct 47 = .ok (.bipush 6, 2) := by decide +kernel
theorem dX4_readProduct_49 : decode cX4_readProduct 49 = .ok (.goto 24, 3) := by decide +kernel
theorem dX4_readProduct_52 : decode cX4_readProduct 52 = .ok (.aload_n 0, 1) := by decide +kernel
theorem dX4_readProduct_53 : decode cX4_readProduct 53 = .ok (.getfield 22, 3) := by decide +kernel
theorem dX4_readProduct_56 : decode cX4_readProduct 56 = .ok (.aload_n 0, 1) := by decide +kernel
theorem dX4_readProduct_57 : decode cX4_readProduct 57 = .ok (.getfield 42, 3) := by decide +kernel
theorem dX4_readProduct_60 : decode cX4_readProduct 60 = .ok (.iaload, 1) := by decide +kernel
theorem dX4_readProduct_61 : decode cX4_readProduct 61 = .ok (.bipush 47, 2) := by decide +kernel
theorem dX4_readProduct_63 : decode cX4_readProduct 63 = .ok (.if_icmp .ne 8, 3) := by decide +kernel
theorem dX4_readProduct_66 : decode cX4_readProduct 66 = .ok (.bipush 7, 2) := by decide +kernel
theorem dX4_readProduct_68 : decode cX4_readProduct 68 = .ok (.goto 5, 3) := by decide +kernel
theorem dX4_readProduct_71 : decode cX4_readProduct 71 = .ok (.bipush 8, 2) := by decide +kernel
theorem dX4_readProduct_73 : decode cX4_readProduct 73 = .ok (.istore_n 2, 1) := by decide +kernel
theorem dX4_readProduct_74 : decode cX4_readProduct 74 = .ok (.aload_n 0, 1) := by decide +kernel
theorem dX4_readProduct_75 : decode cX4_readProduct 75 = .ok (.invokevirtual 102, 3) := by decide +kernel
theorem dX4_readProduct_78 : decode cX4_readProduct 78 = .ok (.aload_n 0, 1) := by decide +kernel
theorem dX4_readProduct_79 : decode cX4_readProduct 79 = .ok (.invokevirtual 177, 3) := by decide +kernel
theorem dX4_readProduct_82 : decode cX4_readProduct 82 = .ok (.ifCond .ne 5, 3) := by decide +kernel
theorem dX4_readProduct_85 : decode cX4_readProduct 85 = .ok (.iconst 0, 1) := by decide +kernel
theorem dX4_readProduct_86 : decode cX4_readProduct 86 = .ok (.ireturn, 1) := by decide +kernel
theorem dX4_readProduct_87 : decode cX4_readProduct 87 = .ok (.aload_n 0, 1) := by decide +kernel
theorem dX4_readProduct_88 : decode cX4_readProduct 88 = .ok (.getfield 36, 3) := by decide +kernel
theorem dX4_readProduct_91 : decode cX4_readProduct 91 = .ok (.iload_n 2, 1) := by decide +kernel
theorem dX4_readProduct_92 : decode cX4_readProduct 92 = .ok (.iconst 0, 1) := by decide +kernel
theorem dX4_readProduct_93 : decode cX4_readProduct 93 = .ok (.invokevirtual 173, 3) := by decide +kernel
theorem dX4_readProduct_96 : decode cX4_readProduct 96 = .ok (.iinc 1 1, 3) := by decide +kernel
theorem dX4_readProduct_99 : decode cX4_readProduct 99 = .ok (.goto (-88), 3) := by decide +kernel
theorem dX4_readProduct_102 : decode cX4_readProduct 102 = .ok (.iconst 1, 1) := by decide +kernel
theorem dX4_readProduct_103 : decode cX4_readProduct 103 = .ok (.ireturn, 1) := by decide +kernel
theorem dX4_isTimes_0 : decode cX4_isTimes 0 = .ok (.iload_n 0, 1) := by decide +kernel
theorem dX4_isTimes_1 : decode cX4_isTimes 1 = .ok (.bipush 42, 2) := by decide +kernel
theorem dX4_isTimes_3 : decode cX4_isTimes 3 = .ok (.if_icmp .eq 15, 3) := by decide +kernel
theorem dX4_isTimes_6 : decode cX4_isTimes 6 = .ok (.iload_n 0, 1) := by decide +kernel
theorem dX4_isTimes_7 : decode cX4_isTimes 7 = .ok (.bipush 47, 2) := by decide +kernel
theorem dX4_isTimes_9 : decode cX4_isTimes 9 = .ok (.if_icmp .eq 9, 3) := by decide +kernel
theorem dX4_isTimes_12 : decode cX4_isTimes 12 = .ok (.iload_n 0, 1) := by decide +kernel
theorem dX4_isTimes_13 : decode cX4_isTimes 13 = .ok (.bipush 37, 2) := by decide +kernel
theorem dX4_isTimes_15 : decode cX4_isTimes 15 = .ok (.if_icmp .ne 7, 3) := by decide +kernel
theorem dX4_isTimes_18 : decode cX4_isTimes 18 = .ok (.iconst 1, 1) := by decide +kernel
theorem dX4_isTimes_19 : decode cX4_isTimes 19 = .ok (.goto 4, 3) := by decide +kernel
theorem dX4_isTimes_22 : decode cX4_isTimes 22 = .ok (.iconst 0, 1) := by decide +kernel
theorem dX4_isTimes_23 : decode cX4_isTimes 23 = .ok (.ireturn, 1) := by decide +kernel
theorem dX4_readPart_0 : decode cX4_readPart 0 = .ok (.aload_n 0, 1) := by decide +kernel
theorem dX4_readPart_1 : decode cX4_readPart 1 = .ok (.getfield 22, 3) := by decide +kernel
theorem dX4_readPart_4 : decode cX4_readPart 4 = .ok (.aload_n 0, 1) := by decide +kernel
theorem dX4_readPart_5 : decode cX4_readPart 5 = .ok (.getfield 42, 3) := by decide +kernel
theorem dX4_readPart_8 : decode cX4_readPart 8 = .ok (.iaload, 1) := by decide +kernel
theorem dX4_readPart_9 : decode cX4_readPart 9 = .ok (.tableswitch 334 2 40 #[200, 334, 334, 334, 260, 334, 334, 334, 334, 334, 186, 193, 207, 214, 237, 329, 334, 334, 334, 334, 315, 322, 334, 171, 334, 334, 334, 334, 334, 334, 334, 334, 334, 334, 334, 334, 334, 334, 284], 171) := by decide +kernel
theorem dX4_readPart_180 : decode cX4_readPart 180 = .ok (.aload_n 0, 1) := by decide +kernel
theorem dX4_readPart_181 : decode cX4_readPart 181 = .ok (.iconst 0, 1) := by decide +kernel
theorem dX4_readPart_182 : decode cX4_readPart 182 = .ok (.aload_n 0, 1) := by decide +kernel
theorem dX4_readPart_183 : decode cX4_readPart 183 = .ok (.getfield 29, 3) := by decide +kernel
theorem dX4_readPart_186 : decode cX4_readPart 186 = .ok (.aload_n 0, 1) := by decide +kernel
theorem dX4_readPart_187 : decode cX4_readPart 187 = .ok (.getfield 42, 3) := by decide +kernel
theorem dX4_readPart_190 : decode cX4_readPart 190 = .ok (.iaload, 1) := by decide +kernel
theorem dX4_readPart_191 : decode cX4_readPart 191 = .ok (.invokevirtual 183, 3) := by decide +kernel
theorem dX4_readPart_194 : decode cX4_readPart 194 = .ok (.ireturn, 1) := by decide +kernel
theorem dX4_readPart_195 : decode cX4_readPart 195 = .ok (.aload_n 0, 1) := by decide +kernel
theorem dX4_readPart_196 : decode cX4_readPart 196 = .ok (.iconst 1, 1) := by decide +kernel
theorem dX4_readPart_197 : decode cX4_readPart 197 = .ok (.iconst 0, 1) := by decide +kernel
theorem dX4_readPart_198 : decode cX4_readPart 198 = .ok (.invokevirtual 183, 3) := by decide +kernel
theorem dX4_readPart_201 : decode cX4_readPart 201 = .ok (.ireturn, 1) := by decide +kernel
theorem dX4_readPart_202 : decode cX4_readPart 202 = .ok (.aload_n 0, 1) := by decide +kernel
theorem dX4_readPart_203 : decode cX4_readPart 203 = .ok (.iconst 1, 1) := by decide +kernel
theorem dX4_readPart_204 : decode cX4_readPart 204 = .ok (.iconst 1, 1) := by decide +kernel
theorem dX4_readPart_205 : decode cX4_readPart 205 = .ok (.invokevirtual 183, 3) := by decide +kernel
theorem dX4_readPart_208 : decode cX4_readPart 208 = .ok (.ireturn, 1) := by decide +kernel
theorem dX4_readPart_209 : decode cX4_readPart 209 = .ok (.aload_n 0, 1) := by decide +kernel
theorem dX4_readPart_210 : decode cX4_readPart 210 = .ok (.iconst 1, 1) := by decide +kernel
theorem dX4_readPart_211 : decode cX4_readPart 211 = .ok (.iconst 2, 1) := by decide +kernel
theorem dX4_readPart_212 : decode cX4_readPart 212 = .ok (.invokevirtual 183, 3) := by decide +kernel
theorem dX4_readPart_215 : decode cX4_readPart 215 = .ok (.ireturn, 1) := by decide +kernel
theorem dX4_readPart_216 : decode cX4_readPart 216 = .ok (.aload_n 0, 1) := by decide +kernel
theorem dX4_readPart_217 : decode cX4_readPart 217 = .ok (.iconst 1, 1) := by decide +kernel
theorem dX4_readPart_218 : decode cX4_readPart 218 = .ok (.iconst 3, 1) := by decide +kernel
theorem dX4_readPart_219 : decode cX4_readPart 219 = .ok (.invokevirtual 183, 3) := by decide +kernel
theorem dX4_readPart_222 : decode cX4_readPart 222 = .ok (.ireturn, 1) := by decide +kernel
theorem dX4_readPart_223 : decode cX4_readPart 223 = .ok (.aload_n 0, 1) := by decide +kernel
theorem dX4_readPart_224 : decode cX4_readPart 224 = .ok (.getfield 161, 3) := by decide +kernel
theorem dX4_readPart_227 : decode cX4_readPart 227 = .ok (.bipush 8, 2) := by decide +kernel
theorem dX4_readPart_229 : decode cX4_readPart 229 = .ok (.if_icmp .ne 10, 3) := by decide +kernel
theorem dX4_readPart_232 : decode cX4_readPart 232 = .ok (.aload_n 0, 1) := by decide +kernel
theorem dX4_readPart_233 : decode cX4_readPart 233 = .ok (.invokevirtual 75, 3) := by decide +kernel
theorem dX4_readPart_236 : decode cX4_readPart 236 = .ok (.goto 9, 3) := by decide +kernel
theorem dX4_readPart_239 : decode cX4_readPart 239 = .ok (.aload_n 0, 1) := by decide +kernel
theorem dX4_readPart_240 : decode cX4_readPart 240 = .ok (.iconst 1, 1) := by decide +kernel
theorem dX4_readPart_241 : decode cX4_readPart 241 = .ok (.iconst 4, 1) := by decide +kernel
theorem dX4_readPart_242 : decode cX4_readPart 242 = .ok (.invokevirtual 183, 3) := by decide +kernel
theorem dX4_readPart_245 : decode cX4_readPart 245 = .ok (.ireturn, 1) := by decide +kernel
theorem dX4_readPart_246 : decode cX4_readPart 246 = .ok (.aload_n 0, 1) := by decide +kernel
theorem dX4_readPart_247 : decode cX4_readPart 247 = .ok (.getfield 161, 3) := by decide +kernel
theorem dX4_readPart_250 : decode cX4_readPart 250 = .ok (.bipush 10, 2) := by decide +kernel
theorem dX4_readPart_252 : decode cX4_readPart 252 = .ok (.if_icmp .ne 12, 3) := by decide +kernel
theorem dX4_readPart_255 : decode cX4_readPart 255 = .ok (.aload_n 0, 1) := by decide +kernel
theorem dX4_readPart_256 : decode cX4_readPart 256 = .ok (.iconst 1, 1) := by decide +kernel
theorem dX4_readPart_257 : decode cX4_readPart 257 = .ok (.iconst 5, 1) := by decide +kernel
theorem dX4_readPart_258 : decode cX4_readPart 258 = .ok (.invokevirtual 183, 3) := by decide +kernel
theorem dX4_readPart_261 : decode cX4_readPart 261 = .ok (.goto 7, 3) := by decide +kernel
theorem dX4_readPart_264 : decode cX4_readPart 264 = .ok (.aload_n 0, 1) := by decide +kernel
theorem dX4_readPart_265 : decode cX4_readPart 265 = .ok (.invokevirtual 75, 3) := by decide +kernel
theorem dX4_readPart_268 : decode cX4_readPart 268 = .ok (.ireturn, 1) := by decide +kernel
theorem dX4_readPart_269 : decode cX4_readPart 269 = .ok (.aload_n 0, 1) := by decide +kernel
theorem dX4_readPart_270 : decode cX4_readPart 270 = .ok (.getfield 161, 3) := by decide +kernel
theorem dX4_readPart_273 : decode cX4_readPart 273 = .ok (.bipush 10, 2) := by decide +kernel
theorem dX4_readPart_275 : decode cX4_readPart 275 = .ok (.if_icmp .ne 13, 3) := by decide +kernel
theorem dX4_readPart_278 : decode cX4_readPart 278 = .ok (.aload_n 0, 1) := by decide +kernel
theorem dX4_readPart_279 : decode cX4_readPart 279 = .ok (.iconst 1, 1) := by decide +kernel
theorem dX4_readPart_280 : decode cX4_readPart 280 = .ok (.bipush 6, 2) := by decide +kernel
theorem dX4_readPart_282 : decode cX4_readPart 282 = .ok (.invokevirtual 183, 3) := by decide +kernel
theorem dX4_readPart_285 : decode cX4_readPart 285 = .ok (.goto 7, 3) := by decide +kernel
theorem dX4_readPart_288 : decode cX4_readPart 288 = .ok (.aload_n 0, 1) := by decide +kernel
theorem dX4_readPart_289 : decode cX4_readPart 289 = .ok (.invokevirtual 75, 3) := by decide +kernel
theorem dX4_readPart_292 : decode cX4_readPart 292 = .ok (.ireturn, 1) := by decide +kernel
theorem dX4_readPart_293 : decode cX4_readPart 293 = .ok (.aload_n 0, 1) := by decide +kernel
theorem dX4_readPart_294 : decode cX4_readPart 294 = .ok (.bipush 40, 2) := by decide +kernel
theorem dX4_readPart_296 : decode cX4_readPart 296 = .ok (.invokevirtual 186, 3) := by decide +kernel
theorem dX4_readPart_299 : decode cX4_readPart 299 = .ok (.ifCond .eq 23, 3) := by decide +kernel
theorem dX4_readPart_302 : decode cX4_readPart 302 = .ok (.aload_n 0, 1) := by decide +kernel
theorem dX4_readPart_303 : decode cX4_readPart 303 = .ok (.invokevirtual 164, 3) := by decide +kernel
theorem dX4_readPart_306 : decode cX4_readPart 306 = .ok (.ifCond .eq 16, 3) := by decide +kernel
theorem dX4_readPart_309 : decode cX4_readPart 309 = .ok (.aload_n 0, 1) := by decide +kernel
theorem dX4_readPart_310 : decode cX4_readPart 310 = .ok (.bipush 41, 2) := by decide +kernel
theorem dX4_readPart_312 : decode cX4_readPart 312 = .ok (.invokevirtual 189, 3) := by decide +kernel
theorem dX4_readPart_315 : decode cX4_readPart 315 = .ok (.ifCond .eq 7, 3) := by decide +kernel
theorem dX4_readPart_318 : decode cX4_readPart 318 = .ok (.iconst 1, 1) := by decide +kernel
theorem dX4_readPart_319 : decode cX4_readPart 319 = .ok (.goto 4, 3) := by decide +kernel
theorem dX4_readPart_322 : decode cX4_readPart 322 = .ok (.iconst 0, 1) := by decide +kernel
theorem dX4_readPart_323 : decode cX4_readPart 323 = .ok (.ireturn, 1) := by decide +kernel
theorem dX4_readPart_324 : decode cX4_readPart 324 = .ok (.aload_n 0, 1) := by decide +kernel
theorem dX4_readPart_325 : decode cX4_readPart 325 = .ok (.bipush 9, 2) := by decide +kernel
theorem dX4_readPart_327 : decode cX4_readPart 327 = .ok (.invokevirtual 192, 3) := by decide +kernel
theorem dX4_readPart_330 : decode cX4_readPart 330 = .ok (.ireturn, 1) := by decide +kernel
theorem dX4_readPart_331 : decode cX4_readPart 331 = .ok (.aload_n 0, 1) := by decide +kernel
theorem dX4_readPart_332 : decode cX4_readPart 332 = .ok (.bipush 10, 2) := by decide +kernel
theorem dX4_readPart_334 : decode cX4_readPart 334 = .ok (.invokevirtual 192, 3) := by decide +kernel
theorem dX4_readPart_337 : decode cX4_readPart 337 = .ok (.ireturn, 1) := by decide +kernel
theorem dX4_readPart_338 : decode cX4_readPart 338 = .ok (.aload_n 0, 1) := by decide +kernel
theorem dX4_readPart_339 : decode cX4_readPart 339 = .ok (.invokevirtual 195, 3) := by decide +kernel
theorem dX4_readPart_342 : decode cX4_readPart 342 = .ok (.ireturn, 1) := by decide +kernel
theorem dX4_readPart_343 : decode cX4_readPart 343 = .ok (.aload_n 0, 1) := by decide +kernel
theorem dX4_readPart_344 : decode cX4_readPart 344 = .ok (.invokevirtual 75, 3) := by decide +kernel
theorem dX4_readPart_347 : decode cX4_readPart 347 = .ok (.ireturn, 1) := by decide +kernel
theorem dX4_tell_0 : decode cX4_tell 0 = .ok (.aload_n 0, 1) := by decide +kernel
theorem dX4_tell_1 : decode cX4_tell 1 = .ok (.getfield 36, 3) := by decide +kernel
theorem dX4_tell_4 : decode cX4_tell 4 = .ok (.iload_n 1, 1) := by decide +kernel
theorem dX4_tell_5 : decode cX4_tell 5 = .ok (.iload_n 2, 1) := by decide +kernel
theorem dX4_tell_6 : decode cX4_tell 6 = .ok (.invokevirtual 173, 3) := by decide +kernel
theorem dX4_tell_9 : decode cX4_tell 9 = .ok (.aload_n 0, 1) := by decide +kernel
theorem dX4_tell_10 : decode cX4_tell 10 = .ok (.invokevirtual 102, 3) := by decide +kernel
theorem dX4_tell_13 : decode cX4_tell 13 = .ok (.iconst 1, 1) := by decide +kernel
theorem dX4_tell_14 : decode cX4_tell 14 = .ok (.ireturn, 1) := by decide +kernel
theorem dX4_readPair_0 : decode cX4_readPair 0 = .ok (.aload_n 0, 1) := by decide +kernel
theorem dX4_readPair_1 : decode cX4_readPair 1 = .ok (.invokevirtual 102, 3) := by decide +kernel
theorem dX4_readPair_4 : decode cX4_readPair 4 = .ok (.aload_n 0, 1) := by decide +kernel
theorem dX4_readPair_5 : decode cX4_readPair 5 = .ok (.bipush 40, 2) := by decide +kernel
theorem dX4_readPair_7 : decode cX4_readPair 7 = .ok (.invokevirtual 186, 3) := by decide +kernel
theorem dX4_readPair_10 : decode cX4_readPair 10 = .ok (.ifCond .eq 35, 3) := by decide +kernel
theorem dX4_readPair_13 : decode cX4_readPair 13 = .ok (.aload_n 0, 1) := by decide +kernel
theorem dX4_readPair_14 : decode cX4_readPair 14 = .ok (.invokevirtual 164, 3) := by decide +kernel
theorem dX4_readPair_17 : decode cX4_readPair 17 = .ok (.ifCond .eq 28, 3) := by decide +kernel
theorem dX4_readPair_20 : decode cX4_readPair 20 = .ok (.aload_n 0, 1) := by decide +kernel
theorem dX4_readPair_21 : decode cX4_readPair 21 = .ok (.bipush 44, 2) := by decide +kernel
theorem dX4_readPair_23 : decode cX4_readPair 23 = .ok (.invokevirtual 72, 3) := by decide +kernel
theorem dX4_readPair_26 : decode cX4_readPair 26 = .ok (.ifCond .eq 19, 3) := by decide +kernel
theorem dX4_readPair_29 : decode cX4_readPair 29 = .ok (.aload_n 0, 1) := by decide +kernel
theorem dX4_readPair_30 : decode cX4_readPair 30 = .ok (.invokevirtual 164, 3) := by decide +kernel
theorem dX4_readPair_33 : decode cX4_readPair 33 = .ok (.ifCond .eq 12, 3) := by decide +kernel
theorem dX4_readPair_36 : decode cX4_readPair 36 = .ok (.aload_n 0, 1) := by decide +kernel
theorem dX4_readPair_37 : decode cX4_readPair 37 = .ok (.bipush 41, 2) := by decide +kernel
theorem dX4_readPair_39 : decode cX4_readPair 39 = .ok (.invokevirtual 189, 3) := by decide +kernel
theorem dX4_readPair_42 : decode cX4_readPair 42 = .ok (.ifCond .ne 5, 3) := by decide +kernel
theorem dX4_readPair_45 : decode cX4_readPair 45 = .ok (.iconst 0, 1) := by decide +kernel
theorem dX4_readPair_46 : decode cX4_readPair 46 = .ok (.ireturn, 1) := by decide +kernel
theorem dX4_readPair_47 : decode cX4_readPair 47 = .ok (.aload_n 0, 1) := by decide +kernel
theorem dX4_readPair_48 : decode cX4_readPair 48 = .ok (.getfield 36, 3) := by decide +kernel
theorem dX4_readPair_51 : decode cX4_readPair 51 = .ok (.iload_n 1, 1) := by decide +kernel
theorem dX4_readPair_52 : decode cX4_readPair 52 = .ok (.iconst 0, 1) := by decide +kernel
theorem dX4_readPair_53 : decode cX4_readPair 53 = .ok (.invokevirtual 173, 3) := by decide +kernel
theorem dX4_readPair_56 : decode cX4_readPair 56 = .ok (.iconst 1, 1) := by decide +kernel
theorem dX4_readPair_57 : decode cX4_readPair 57 = .ok (.ireturn, 1) := by decide +kernel
theorem dX4_readChoice_0 : decode cX4_readChoice 0 = .ok (.aload_n 0, 1) := by decide +kernel
theorem dX4_readChoice_1 : decode cX4_readChoice 1 = .ok (.invokevirtual 102, 3) := by decide +kernel
theorem dX4_readChoice_4 : decode cX4_readChoice 4 = .ok (.aload_n 0, 1) := by decide +kernel
theorem dX4_readChoice_5 : decode cX4_readChoice 5 = .ok (.bipush 40, 2) := by decide +kernel
theorem dX4_readChoice_7 : decode cX4_readChoice 7 = .ok (.invokevirtual 186, 3) := by decide +kernel
theorem dX4_readChoice_10 : decode cX4_readChoice 10 = .ok (.ifCond .eq 51, 3) := by decide +kernel
theorem dX4_readChoice_13 : decode cX4_readChoice 13 = .ok (.aload_n 0, 1) := by decide +kernel
theorem dX4_readChoice_14 : decode cX4_readChoice 14 = .ok (.invokevirtual 198, 3) := by decide +kernel
theorem dX4_readChoice_17 : decode cX4_readChoice 17 = .ok (.ifCond .eq 44, 3) := by decide +kernel
theorem dX4_readChoice_20 : decode cX4_readChoice 20 = .ok (.aload_n 0, 1) := by decide +kernel
theorem dX4_readChoice_21 : decode cX4_readChoice 21 = .ok (.bipush 44, 2) := by decide +kernel
theorem dX4_readChoice_23 : decode cX4_readChoice 23 = .ok (.invokevirtual 72, 3) := by decide +kernel
theorem dX4_readChoice_26 : decode cX4_readChoice 26 = .ok (.ifCond .eq 35, 3) := by decide +kernel
theorem dX4_readChoice_29 : decode cX4_readChoice 29 = .ok (.aload_n 0, 1) := by decide +kernel
theorem dX4_readChoice_30 : decode cX4_readChoice 30 = .ok (.invokevirtual 164, 3) := by decide +kernel
theorem dX4_readChoice_33 : decode cX4_readChoice 33 = .ok (.ifCond .eq 28, 3) := by decide +kernel
theorem dX4_readChoice_36 : decode cX4_readChoice 36 = .ok (.aload_n 0, 1) := by decide +kernel
theorem dX4_readChoice_37 : decode cX4_readChoice 37 = .ok (.bipush 44, 2) := by decide +kernel
theorem dX4_readChoice_39 : decode cX4_readChoice 39 = .ok (.invokevirtual 72, 3) := by decide +kernel
theorem dX4_readChoice_42 : decode cX4_readChoice 42 = .ok (.ifCond .eq 19, 3) := by decide +kernel
theorem dX4_readChoice_45 : decode cX4_readChoice 45 = .ok (.aload_n 0, 1) := by decide +kernel
theorem dX4_readChoice_46 : decode cX4_readChoice 46 = .ok (.invokevirtual 164, 3) := by decide +kernel
theorem dX4_readChoice_49 : decode cX4_readChoice 49 = .ok (.ifCond .eq 12, 3) := by decide +kernel
theorem dX4_readChoice_52 : decode cX4_readChoice 52 = .ok (.aload_n 0, 1) := by decide +kernel
theorem dX4_readChoice_53 : decode cX4_readChoice 53 = .ok (.bipush 41, 2) := by decide +kernel
theorem dX4_readChoice_55 : decode cX4_readChoice 55 = .ok (.invokevirtual 189, 3) := by decide +kernel
theorem dX4_readChoice_58 : decode cX4_readChoice 58 = .ok (.ifCond .ne 5, 3) := by decide +kernel
theorem dX4_readChoice_61 : decode cX4_readChoice 61 = .ok (.iconst 0, 1) := by decide +kernel
theorem dX4_readChoice_62 : decode cX4_readChoice 62 = .ok (.ireturn, 1) := by decide +kernel
theorem dX4_readChoice_63 : decode cX4_readChoice 63 = .ok (.aload_n 0, 1) := by decide +kernel
theorem dX4_readChoice_64 : decode cX4_readChoice 64 = .ok (.getfield 36, 3) := by decide +kernel
theorem dX4_readChoice_67 : decode cX4_readChoice 67 = .ok (.iconst 3, 1) := by decide +kernel
theorem dX4_readChoice_68 : decode cX4_readChoice 68 = .ok (.iconst 0, 1) := by decide +kernel
theorem dX4_readChoice_69 : decode cX4_readChoice 69 = .ok (.invokevirtual 173, 3) := by decide +kernel
theorem dX4_readChoice_72 : decode cX4_readChoice 72 = .ok (.iconst 1, 1) := by decide +kernel
theorem dX4_readChoice_73 : decode cX4_readChoice 73 = .ok (.ireturn, 1) := by decide +kernel
theorem dX4_readTest_0 : decode cX4_readTest 0 = .ok (.aload_n 0, 1) := by decide +kernel
theorem dX4_readTest_1 : decode cX4_readTest 1 = .ok (.invokevirtual 201, 3) := by decide +kernel
theorem dX4_readTest_4 : decode cX4_readTest 4 = .ok (.ifCond .ne 5, 3) := by decide +kernel
theorem dX4_readTest_7 : decode cX4_readTest 7 = .ok (.iconst 0, 1) := by decide +kernel
theorem dX4_readTest_8 : decode cX4_readTest 8 = .ok (.ireturn, 1) := by decide +kernel
theorem dX4_readTest_9 : decode cX4_readTest 9 = .ok (.iconst 0, 1) := by decide +kernel
theorem dX4_readTest_10 : decode cX4_readTest 10 = .ok (.istore_n 1, 1) := by decide +kernel
theorem dX4_readTest_11 : decode cX4_readTest 11 = .ok (.iload_n 1, 1) := by decide +kernel
theorem dX4_readTest_12 : decode cX4_readTest 12 = .ok (.sipush 1600, 3) := by decide +kernel
theorem dX4_readTest_15 : decode cX4_readTest 15 = .ok (.if_icmp .ge 46, 3) := by decide +kernel
theorem dX4_readTest_18 : decode cX4_readTest 18 = .ok (.aload_n 0, 1) := by decide +kernel
theorem dX4_readTest_19 : decode cX4_readTest 19 = .ok (.getfield 22, 3) := by decide +kernel
theorem dX4_readTest_22 : decode cX4_readTest 22 = .ok (.aload_n 0, 1) := by decide +kernel
theorem dX4_readTest_23 : decode cX4_readTest 23 = .ok (.getfield 42, 3) := by decide +kernel
theorem dX4_readTest_26 : decode cX4_readTest 26 = .ok (.iaload, 1) := by decide +kernel
theorem dX4_readTest_27 : decode cX4_readTest 27 = .ok (.bipush 18, 2) := by decide +kernel
theorem dX4_readTest_29 : decode cX4_readTest 29 = .ok (.if_icmp .ne 32, 3) := by decide +kernel
theorem dX4_readTest_32 : decode cX4_readTest 32 = .ok (.aload_n 0, 1) := by decide +kernel
theorem dX4_readTest_33 : decode cX4_readTest 33 = .ok (.invokevirtual 102, 3) := by decide +kernel
theorem dX4_readTest_36 : decode cX4_readTest 36 = .ok (.aload_n 0, 1) := by decide +kernel
theorem dX4_readTest_37 : decode cX4_readTest 37 = .ok (.invokevirtual 201, 3) := by decide +kernel
theorem dX4_readTest_40 : decode cX4_readTest 40 = .ok (.ifCond .ne 5, 3) := by decide +kernel
theorem dX4_readTest_43 : decode cX4_readTest 43 = .ok (.iconst 0, 1) := by decide +kernel
theorem dX4_readTest_44 : decode cX4_readTest 44 = .ok (.ireturn, 1) := by decide +kernel
theorem dX4_readTest_45 : decode cX4_readTest 45 = .ok (.aload_n 0, 1) := by decide +kernel
theorem dX4_readTest_46 : decode cX4_readTest 46 = .ok (.getfield 36, 3) := by decide +kernel
theorem dX4_readTest_49 : decode cX4_readTest 49 = .ok (.bipush 15, 2) := by decide +kernel
theorem dX4_readTest_51 : decode cX4_readTest 51 = .ok (.iconst 0, 1) := by decide +kernel
theorem dX4_readTest_52 : decode cX4_readTest 52 = .ok (.invokevirtual 173, 3) := by decide +kernel
theorem dX4_readTest_55 : decode cX4_readTest 55 = .ok (.iinc 1 1, 3) := by decide +kernel
theorem dX4_readTest_58 : decode cX4_readTest 58 = .ok (.goto (-47), 3) := by decide +kernel
theorem dX4_readTest_61 : decode cX4_readTest 61 = .ok (.iconst 1, 1) := by decide +kernel
theorem dX4_readTest_62 : decode cX4_readTest 62 = .ok (.ireturn, 1) := by decide +kernel
theorem dX4_readBoth_0 : decode cX4_readBoth 0 = .ok (.aload_n 0, 1) := by decide +kernel
theorem dX4_readBoth_1 : decode cX4_readBoth 1 = .ok (.invokevirtual 204, 3) := by decide +kernel
theorem dX4_readBoth_4 : decode cX4_readBoth 4 = .ok (.ifCond .ne 5, 3) := by decide +kernel
theorem dX4_readBoth_7 : decode cX4_readBoth 7 = .ok (.iconst 0, 1) := by decide +kernel
theorem dX4_readBoth_8 : decode cX4_readBoth 8 = .ok (.ireturn, 1) := by decide +kernel
theorem dX4_readBoth_9 : decode cX4_readBoth 9 = .ok (.iconst 0, 1) := by decide +kernel
theorem dX4_readBoth_10 : decode cX4_readBoth 10 = .ok (.istore_n 1, 1) := by decide +kernel
theorem dX4_readBoth_11 : decode cX4_readBoth 11 = .ok (.iload_n 1, 1) := by decide +kernel
theorem dX4_readBoth_12 : decode cX4_readBoth 12 = .ok (.sipush 1600, 3) := by decide +kernel
theorem dX4_readBoth_15 : decode cX4_readBoth 15 = .ok (.if_icmp .ge 46, 3) := by decide +kernel
theorem dX4_readBoth_18 : decode cX4_readBoth 18 = .ok (.aload_n 0, 1) := by decide +kernel
theorem dX4_readBoth_19 : decode cX4_readBoth 19 = .ok (.getfield 22, 3) := by decide +kernel
theorem dX4_readBoth_22 : decode cX4_readBoth 22 = .ok (.aload_n 0, 1) := by decide +kernel
theorem dX4_readBoth_23 : decode cX4_readBoth 23 = .ok (.getfield 42, 3) := by decide +kernel
theorem dX4_readBoth_26 : decode cX4_readBoth 26 = .ok (.iaload, 1) := by decide +kernel
theorem dX4_readBoth_27 : decode cX4_readBoth 27 = .ok (.bipush 19, 2) := by decide +kernel
theorem dX4_readBoth_29 : decode cX4_readBoth 29 = .ok (.if_icmp .ne 32, 3) := by decide +kernel
theorem dX4_readBoth_32 : decode cX4_readBoth 32 = .ok (.aload_n 0, 1) := by decide +kernel
theorem dX4_readBoth_33 : decode cX4_readBoth 33 = .ok (.invokevirtual 102, 3) := by decide +kernel
theorem dX4_readBoth_36 : decode cX4_readBoth 36 = .ok (.aload_n 0, 1) := by decide +kernel
theorem dX4_readBoth_37 : decode cX4_readBoth 37 = .ok (.invokevirtual 204, 3) := by decide +kernel
theorem dX4_readBoth_40 : decode cX4_readBoth 40 = .ok (.ifCond .ne 5, 3) := by decide +kernel
theorem dX4_readBoth_43 : decode cX4_readBoth 43 = .ok (.iconst 0, 1) := by decide +kernel
theorem dX4_readBoth_44 : decode cX4_readBoth 44 = .ok (.ireturn, 1) := by decide +kernel
theorem dX4_readBoth_45 : decode cX4_readBoth 45 = .ok (.aload_n 0, 1) := by decide +kernel
theorem dX4_readBoth_46 : decode cX4_readBoth 46 = .ok (.getfield 36, 3) := by decide +kernel
theorem dX4_readBoth_49 : decode cX4_readBoth 49 = .ok (.bipush 14, 2) := by decide +kernel
theorem dX4_readBoth_51 : decode cX4_readBoth 51 = .ok (.iconst 0, 1) := by decide +kernel
theorem dX4_readBoth_52 : decode cX4_readBoth 52 = .ok (.invokevirtual 173, 3) := by decide +kernel
theorem dX4_readBoth_55 : decode cX4_readBoth 55 = .ok (.iinc 1 1, 3) := by decide +kernel
theorem dX4_readBoth_58 : decode cX4_readBoth 58 = .ok (.goto (-47), 3) := by decide +kernel
theorem dX4_readBoth_61 : decode cX4_readBoth 61 = .ok (.iconst 1, 1) := by decide +kernel
theorem dX4_readBoth_62 : decode cX4_readBoth 62 = .ok (.ireturn, 1) := by decide +kernel
theorem dX4_readFact_0 : decode cX4_readFact 0 = .ok (.aload_n 0, 1) := by decide +kernel
theorem dX4_readFact_1 : decode cX4_readFact 1 = .ok (.getfield 22, 3) := by decide +kernel
theorem dX4_readFact_4 : decode cX4_readFact 4 = .ok (.aload_n 0, 1) := by decide +kernel
theorem dX4_readFact_5 : decode cX4_readFact 5 = .ok (.getfield 42, 3) := by decide +kernel
theorem dX4_readFact_8 : decode cX4_readFact 8 = .ok (.iaload, 1) := by decide +kernel
theorem dX4_readFact_9 : decode cX4_readFact 9 = .ok (.lookupswitch 78 #[(20, 35), (21, 71), (91, 40)], 35) := by decide +kernel
theorem dX4_readFact_44 : decode cX4_readFact 44 = .ok (.aload_n 0, 1) := by decide +kernel
theorem dX4_readFact_45 : decode cX4_readFact 45 = .ok (.invokevirtual 207, 3) := by decide +kernel
theorem dX4_readFact_48 : decode cX4_readFact 48 = .ok (.ireturn, 1) := by decide +kernel
theorem dX4_readFact_49 : decode cX4_readFact 49 = .ok (.aload_n 0, 1) := by decide +kernel
theorem dX4_readFact_50 : decode cX4_readFact 50 = .ok (.bipush 91, 2) := by decide +kernel
theorem dX4_readFact_52 : decode cX4_readFact 52 = .ok (.invokevirtual 186, 3) := by decide +kernel
theorem dX4_readFact_55 : decode cX4_readFact 55 = .ok (.ifCond .eq 23, 3) := by decide +kernel
theorem dX4_readFact_58 : decode cX4_readFact 58 = .ok (.aload_n 0, 1) := by decide +kernel
theorem dX4_readFact_59 : decode cX4_readFact 59 = .ok (.invokevirtual 198, 3) := by decide +kernel
theorem dX4_readFact_62 : decode cX4_readFact 62 = .ok (.ifCond .eq 16, 3) := by decide +kernel
theorem dX4_readFact_65 : decode cX4_readFact 65 = .ok (.aload_n 0, 1) := by decide +kernel
theorem dX4_readFact_66 : decode cX4_readFact 66 = .ok (.bipush 93, 2) := by decide +kernel
theorem dX4_readFact_68 : decode cX4_readFact 68 = .ok (.invokevirtual 189, 3) := by decide +kernel
theorem dX4_readFact_71 : decode cX4_readFact 71 = .ok (.ifCond .eq 7, 3) := by decide +kernel
theorem dX4_readFact_74 : decode cX4_readFact 74 = .ok (.iconst 1, 1) := by decide +kernel
theorem dX4_readFact_75 : decode cX4_readFact 75 = .ok (.goto 4, 3) := by decide +kernel
theorem dX4_readFact_78 : decode cX4_readFact 78 = .ok (.iconst 0, 1) := by decide +kernel
theorem dX4_readFact_79 : decode cX4_readFact 79 = .ok (.ireturn, 1) := by decide +kernel
theorem dX4_readFact_80 : decode cX4_readFact 80 = .ok (.aload_n 0, 1) := by decide +kernel
theorem dX4_readFact_81 : decode cX4_readFact 81 = .ok (.iconst 0, 1) := by decide +kernel
theorem dX4_readFact_82 : decode cX4_readFact 82 = .ok (.iconst 1, 1) := by decide +kernel
theorem dX4_readFact_83 : decode cX4_readFact 83 = .ok (.invokevirtual 183, 3) := by decide +kernel
theorem dX4_readFact_86 : decode cX4_readFact 86 = .ok (.ireturn, 1) := by decide +kernel
theorem dX4_readFact_87 : decode cX4_readFact 87 = .ok (.aload_n 0, 1) := by decide +kernel
theorem dX4_readFact_88 : decode cX4_readFact 88 = .ok (.invokevirtual 210, 3) := by decide +kernel
theorem dX4_readFact_91 : decode cX4_readFact 91 = .ok (.ireturn, 1) := by decide +kernel
theorem dX4_readNot_0 : decode cX4_readNot 0 = .ok (.aload_n 0, 1) := by decide +kernel
theorem dX4_readNot_1 : decode cX4_readNot 1 = .ok (.bipush 20, 2) := by decide +kernel
theorem dX4_readNot_3 : decode cX4_readNot 3 = .ok (.invokevirtual 186, 3) := by decide +kernel
theorem dX4_readNot_6 : decode cX4_readNot 6 = .ok (.ifCond .eq 10, 3) := by decide +kernel
theorem dX4_readNot_9 : decode cX4_readNot 9 = .ok (.aload_n 0, 1) := by decide +kernel
theorem dX4_readNot_10 : decode cX4_readNot 10 = .ok (.invokevirtual 204, 3) := by decide +kernel
theorem dX4_readNot_13 : decode cX4_readNot 13 = .ok (.ifCond .ne 5, 3) := by decide +kernel
theorem dX4_readNot_16 : decode cX4_readNot 16 = .ok (.iconst 0, 1) := by decide +kernel
theorem dX4_readNot_17 : decode cX4_readNot 17 = .ok (.ireturn, 1) := by decide +kernel
theorem dX4_readNot_18 : decode cX4_readNot 18 = .ok (.aload_n 0, 1) := by decide +kernel
theorem dX4_readNot_19 : decode cX4_readNot 19 = .ok (.dup, 1) := by decide +kernel
theorem dX4_readNot_20 : decode cX4_readNot 20 = .ok (.getfield 45, 3) := by decide +kernel
theorem dX4_readNot_23 : decode cX4_readNot 23 = .ok (.iconst 1, 1) := by decide +kernel
theorem dX4_readNot_24 : decode cX4_readNot 24 = .ok (.isub, 1) := by decide +kernel
theorem dX4_readNot_25 : decode cX4_readNot 25 = .ok (.putfield 45, 3) := by decide +kernel
theorem dX4_readNot_28 : decode cX4_readNot 28 = .ok (.aload_n 0, 1) := by decide +kernel
theorem dX4_readNot_29 : decode cX4_readNot 29 = .ok (.getfield 36, 3) := by decide +kernel
theorem dX4_readNot_32 : decode cX4_readNot 32 = .ok (.iconst 2, 1) := by decide +kernel
theorem dX4_readNot_33 : decode cX4_readNot 33 = .ok (.iconst 0, 1) := by decide +kernel
theorem dX4_readNot_34 : decode cX4_readNot 34 = .ok (.invokevirtual 173, 3) := by decide +kernel
theorem dX4_readNot_37 : decode cX4_readNot 37 = .ok (.iconst 1, 1) := by decide +kernel
theorem dX4_readNot_38 : decode cX4_readNot 38 = .ok (.ireturn, 1) := by decide +kernel
theorem dX4_readComparison_0 : decode cX4_readComparison 0 = .ok (.aload_n 0, 1) := by decide +kernel
theorem dX4_readComparison_1 : decode cX4_readComparison 1 = .ok (.invokevirtual 164, 3) := by decide +kernel
theorem dX4_readComparison_4 : decode cX4_readComparison 4 = .ok (.ifCond .ne 5, 3) := by decide +kernel
theorem dX4_readComparison_7 : decode cX4_readComparison 7 = .ok (.iconst 0, 1) := by decide +kernel
theorem dX4_readComparison_8 : decode cX4_readComparison 8 = .ok (.ireturn, 1) := by decide +kernel
theorem dX4_readComparison_9 : decode cX4_readComparison 9 = .ok (.aload_n 0, 1) := by decide +kernel
theorem dX4_readComparison_10 : decode cX4_readComparison 10 = .ok (.getfield 22, 3) := by decide +kernel
theorem dX4_readComparison_13 : decode cX4_readComparison 13 = .ok (.aload_n 0, 1) := by decide +kernel
theorem dX4_readComparison_14 : decode cX4_readComparison 14 = .ok (.getfield 42, 3) := by decide +kernel
theorem dX4_readComparison_17 : decode cX4_readComparison 17 = .ok (.iaload, 1) := by decide +kernel
theorem dX4_readComparison_18 : decode cX4_readComparison 18 = .ok (.tableswitch 44 60 62 #[26, 38, 32], 26) := by decide +kernel
theorem dX4_readComparison_44 : decode cX4_readComparison 44 = .ok (.bipush 11, 2) := by decide +kernel
theorem dX4_readComparison_46 : decode cX4_readComparison 46 = .ok (.istore_n 1, 1) := by decide +kernel
theorem dX4_readComparison_47 : decode cX4_readComparison 47 = .ok (.goto 20, 3) := by decide +kernel
theorem dX4_readComparison_50 : decode cX4_readComparison 50 = .ok (.bipush 12, 2) := by decide +kernel
theorem dX4_readComparison_52 : decode cX4_readComparison 52 = .ok (.istore_n 1, 1) := by decide +kernel
theorem dX4_readComparison_53 : decode cX4_readComparison 53 = .ok (.goto 14, 3) := by decide +kernel
theorem dX4_readComparison_56 : decode cX4_readComparison 56 = .ok (.bipush 13, 2) := by decide +kernel
theorem dX4_readComparison_58 : decode cX4_readComparison 58 = .ok (.istore_n 1, 1) := by decide +kernel
theorem dX4_readComparison_59 : decode cX4_readComparison 59 = .ok (.goto 8, 3) := by decide +kernel
theorem dX4_readComparison_62 : decode cX4_readComparison 62 = .ok (.aload_n 0, 1) := by decide +kernel
theorem dX4_readComparison_63 : decode cX4_readComparison 63 = .ok (.invokevirtual 75, 3) := by decide +kernel
theorem dX4_readComparison_66 : decode cX4_readComparison 66 = .ok (.ireturn, 1) := by decide +kernel
theorem dX4_readComparison_67 : decode cX4_readComparison 67 = .ok (.aload_n 0, 1) := by decide +kernel
theorem dX4_readComparison_68 : decode cX4_readComparison 68 = .ok (.invokevirtual 102, 3) := by decide +kernel
theorem dX4_readComparison_71 : decode cX4_readComparison 71 = .ok (.aload_n 0, 1) := by decide +kernel
theorem dX4_readComparison_72 : decode cX4_readComparison 72 = .ok (.invokevirtual 164, 3) := by decide +kernel
theorem dX4_readComparison_75 : decode cX4_readComparison 75 = .ok (.ifCond .ne 5, 3) := by decide +kernel
theorem dX4_readComparison_78 : decode cX4_readComparison 78 = .ok (.iconst 0, 1) := by decide +kernel
theorem dX4_readComparison_79 : decode cX4_readComparison 79 = .ok (.ireturn, 1) := by decide +kernel
theorem dX4_readComparison_80 : decode cX4_readComparison 80 = .ok (.aload_n 0, 1) := by decide +kernel
theorem dX4_readComparison_81 : decode cX4_readComparison 81 = .ok (.getfield 36, 3) := by decide +kernel
theorem dX4_readComparison_84 : decode cX4_readComparison 84 = .ok (.iload_n 1, 1) := by decide +kernel
theorem dX4_readComparison_85 : decode cX4_readComparison 85 = .ok (.iconst 0, 1) := by decide +kernel
theorem dX4_readComparison_86 : decode cX4_readComparison 86 = .ok (.invokevirtual 173, 3) := by decide +kernel
theorem dX4_readComparison_89 : decode cX4_readComparison 89 = .ok (.iconst 1, 1) := by decide +kernel
theorem dX4_readComparison_90 : decode cX4_readComparison 90 = .ok (.ireturn, 1) := by decide +kernel
theorem dX4_pass_0 : decode cX4_pass 0 = .ok (.aload_n 0, 1) := by decide +kernel
theorem dX4_pass_1 : decode cX4_pass 1 = .ok (.getfield 42, 3) := by decide +kernel
theorem dX4_pass_4 : decode cX4_pass 4 = .ok (.aload_n 0, 1) := by decide +kernel
theorem dX4_pass_5 : decode cX4_pass 5 = .ok (.getfield 213, 3) := by decide +kernel
theorem dX4_pass_8 : decode cX4_pass 8 = .ok (.iconst 1, 1) := by decide +kernel
theorem dX4_pass_9 : decode cX4_pass 9 = .ok (.isub, 1) := by decide +kernel
theorem dX4_pass_10 : decode cX4_pass 10 = .ok (.if_icmp .ge 13, 3) := by decide +kernel
theorem dX4_pass_13 : decode cX4_pass 13 = .ok (.aload_n 0, 1) := by decide +kernel
theorem dX4_pass_14 : decode cX4_pass 14 = .ok (.dup, 1) := by decide +kernel
theorem dX4_pass_15 : decode cX4_pass 15 = .ok (.getfield 42, 3) := by decide +kernel
theorem dX4_pass_18 : decode cX4_pass 18 = .ok (.iconst 1, 1) := by decide +kernel
theorem dX4_pass_19 : decode cX4_pass 19 = .ok (.iadd, 1) := by decide +kernel
theorem dX4_pass_20 : decode cX4_pass 20 = .ok (.putfield 42, 3) := by decide +kernel
theorem dX4_pass_23 : decode cX4_pass 23 = .ok (.return_, 1) := by decide +kernel
theorem dX4_take_0 : decode cX4_take 0 = .ok (.aload_n 0, 1) := by decide +kernel
theorem dX4_take_1 : decode cX4_take 1 = .ok (.getfield 22, 3) := by decide +kernel
theorem dX4_take_4 : decode cX4_take 4 = .ok (.aload_n 0, 1) := by decide +kernel
theorem dX4_take_5 : decode cX4_take 5 = .ok (.getfield 42, 3) := by decide +kernel
theorem dX4_take_8 : decode cX4_take 8 = .ok (.iaload, 1) := by decide +kernel
theorem dX4_take_9 : decode cX4_take 9 = .ok (.iload_n 1, 1) := by decide +kernel
theorem dX4_take_10 : decode cX4_take 10 = .ok (.if_icmp .eq 8, 3) := by decide +kernel
theorem dX4_take_13 : decode cX4_take 13 = .ok (.aload_n 0, 1) := by decide +kernel
theorem dX4_take_14 : decode cX4_take 14 = .ok (.invokevirtual 75, 3) := by decide +kernel
theorem dX4_take_17 : decode cX4_take 17 = .ok (.ireturn, 1) := by decide +kernel
theorem dX4_take_18 : decode cX4_take 18 = .ok (.aload_n 0, 1) := by decide +kernel
theorem dX4_take_19 : decode cX4_take 19 = .ok (.invokevirtual 102, 3) := by decide +kernel
theorem dX4_take_22 : decode cX4_take 22 = .ok (.iconst 1, 1) := by decide +kernel
theorem dX4_take_23 : decode cX4_take 23 = .ok (.ireturn, 1) := by decide +kernel
theorem dX4_takeNumber_0 : decode cX4_takeNumber 0 = .ok (.aload_n 0, 1) := by decide +kernel
theorem dX4_takeNumber_1 : decode cX4_takeNumber 1 = .ok (.getfield 22, 3) := by decide +kernel
theorem dX4_takeNumber_4 : decode cX4_takeNumber 4 = .ok (.aload_n 0, 1) := by decide +kernel
theorem dX4_takeNumber_5 : decode cX4_takeNumber 5 = .ok (.getfield 42, 3) := by decide +kernel
theorem dX4_takeNumber_8 : decode cX4_takeNumber 8 = .ok (.iaload, 1) := by decide +kernel
theorem dX4_takeNumber_9 : decode cX4_takeNumber 9 = .ok (.bipush 25, 2) := by decide +kernel
theorem dX4_takeNumber_11 : decode cX4_takeNumber 11 = .ok (.if_icmp .eq 8, 3) := by decide +kernel
theorem dX4_takeNumber_14 : decode cX4_takeNumber 14 = .ok (.aload_n 0, 1) := by decide +kernel
theorem dX4_takeNumber_15 : decode cX4_takeNumber 15 = .ok (.invokevirtual 75, 3) := by decide +kernel
theorem dX4_takeNumber_18 : decode cX4_takeNumber 18 = .ok (.ireturn, 1) := by decide +kernel
theorem dX4_takeNumber_19 : decode cX4_takeNumber 19 = .ok (.aload_n 0, 1) := by decide +kernel
theorem dX4_takeNumber_20 : decode cX4_takeNumber 20 = .ok (.getfield 29, 3) := by decide +kernel
theorem dX4_takeNumber_23 : decode cX4_takeNumber 23 = .ok (.aload_n 0, 1) := by decide +kernel
theorem dX4_takeNumber_24 : decode cX4_takeNumber 24 = .ok (.getfield 42, 3) := by decide +kernel
theorem dX4_takeNumber_27 : decode cX4_takeNumber 27 = .ok (.iaload, 1) := by decide +kernel
theorem dX4_takeNumber_28 : decode cX4_takeNumber 28 = .ok (.iload_n 1, 1) := by decide +kernel
theorem dX4_takeNumber_29 : decode cX4_takeNumber 29 = .ok (.if_icmp .lt 16, 3) := by decide +kernel
theorem dX4_takeNumber_32 : decode cX4_takeNumber 32 = .ok (.aload_n 0, 1) := by decide +kernel
theorem dX4_takeNumber_33 : decode cX4_takeNumber 33 = .ok (.getfield 29, 3) := by decide +kernel
theorem dX4_takeNumber_36 : decode cX4_takeNumber 36 = .ok (.aload_n 0, 1) := by decide +kernel
theorem dX4_takeNumber_37 : decode cX4_takeNumber 37 = .ok (.getfield 42, 3) := by decide +kernel
theorem dX4_takeNumber_40 : decode cX4_takeNumber 40 = .ok (.iaload, 1) := by decide +kernel
theorem dX4_takeNumber_41 : decode cX4_takeNumber 41 = .ok (.iload_n 2, 1) := by decide +kernel
theorem dX4_takeNumber_42 : decode cX4_takeNumber 42 = .ok (.if_icmp .le 9, 3) := by decide +kernel
theorem dX4_takeNumber_45 : decode cX4_takeNumber 45 = .ok (.aload_n 0, 1) := by decide +kernel
theorem dX4_takeNumber_46 : decode cX4_takeNumber 46 = .ok (.iconst 4, 1) := by decide +kernel
theorem dX4_takeNumber_47 : decode cX4_takeNumber 47 = .ok (.invokevirtual 64, 3) := by decide +kernel
theorem dX4_takeNumber_50 : decode cX4_takeNumber 50 = .ok (.ireturn, 1) := by decide +kernel
theorem dX4_takeNumber_51 : decode cX4_takeNumber 51 = .ok (.aload_n 0, 1) := by decide +kernel
theorem dX4_takeNumber_52 : decode cX4_takeNumber 52 = .ok (.invokevirtual 102, 3) := by decide +kernel
theorem dX4_takeNumber_55 : decode cX4_takeNumber 55 = .ok (.iconst 1, 1) := by decide +kernel
theorem dX4_takeNumber_56 : decode cX4_takeNumber 56 = .ok (.ireturn, 1) := by decide +kernel
theorem dX4_lastValue_0 : decode cX4_lastValue 0 = .ok (.aload_n 0, 1) := by decide +kernel
theorem dX4_lastValue_1 : decode cX4_lastValue 1 = .ok (.getfield 42, 3) := by decide +kernel
theorem dX4_lastValue_4 : decode cX4_lastValue 4 = .ok (.ifCond .le 17, 3) := by decide +kernel
theorem dX4_lastValue_7 : decode cX4_lastValue 7 = .ok (.aload_n 0, 1) := by decide +kernel
theorem dX4_lastValue_8 : decode cX4_lastValue 8 = .ok (.getfield 29, 3) := by decide +kernel
theorem dX4_lastValue_11 : decode cX4_lastValue 11 = .ok (.aload_n 0, 1) := by decide +kernel
theorem dX4_lastValue_12 : decode cX4_lastValue 12 = .ok (.getfield 42, 3) := by decide +kernel
theorem dX4_lastValue_15 : decode cX4_lastValue 15 = .ok (.iconst 1, 1) := by decide +kernel
theorem dX4_lastValue_16 : decode cX4_lastValue 16 = .ok (.isub, 1) := by decide +kernel
theorem dX4_lastValue_17 : decode cX4_lastValue 17 = .ok (.iaload, 1) := by decide +kernel
theorem dX4_lastValue_18 : decode cX4_lastValue 18 = .ok (.goto 4, 3) := by decide +kernel
theorem dX4_lastValue_21 : decode cX4_lastValue 21 = .ok (.iconst 0, 1) := by decide +kernel
theorem dX4_lastValue_22 : decode cX4_lastValue 22 = .ok (.ireturn, 1) := by decide +kernel
theorem dX4_opens_0 : decode cX4_opens 0 = .ok (.aload_n 0, 1) := by decide +kernel
theorem dX4_opens_1 : decode cX4_opens 1 = .ok (.getfield 22, 3) := by decide +kernel
theorem dX4_opens_4 : decode cX4_opens 4 = .ok (.aload_n 0, 1) := by decide +kernel
theorem dX4_opens_5 : decode cX4_opens 5 = .ok (.getfield 42, 3) := by decide +kernel
theorem dX4_opens_8 : decode cX4_opens 8 = .ok (.iaload, 1) := by decide +kernel
theorem dX4_opens_9 : decode cX4_opens 9 = .ok (.iload_n 1, 1) := by decide +kernel
theorem dX4_opens_10 : decode cX4_opens 10 = .ok (.if_icmp .eq 8, 3) := by decide +kernel
theorem dX4_opens_13 : decode cX4_opens 13 = .ok (.aload_n 0, 1) := by decide +kernel
theorem dX4_opens_14 : decode cX4_opens 14 = .ok (.invokevirtual 75, 3) := by decide +kernel
theorem dX4_opens_17 : decode cX4_opens 17 = .ok (.ireturn, 1) := by decide +kernel
theorem dX4_opens_18 : decode cX4_opens 18 = .ok (.aload_n 0, 1) := by decide +kernel
theorem dX4_opens_19 : decode cX4_opens 19 = .ok (.getfield 45, 3) := by decide +kernel
theorem dX4_opens_22 : decode cX4_opens 22 = .ok (.bipush 7, 2) := by decide +kernel
theorem dX4_opens_24 : decode cX4_opens 24 = .ok (.if_icmp .lt 9, 3) := by decide +kernel
theorem dX4_opens_27 : decode cX4_opens 27 = .ok (.aload_n 0, 1) := by decide +kernel
theorem dX4_opens_28 : decode cX4_opens 28 = .ok (.iconst 5, 1) := by decide +kernel
theorem dX4_opens_29 : decode cX4_opens 29 = .ok (.invokevirtual 64, 3) := by decide +kernel
theorem dX4_opens_32 : decode cX4_opens 32 = .ok (.ireturn, 1) := by decide +kernel
theorem dX4_opens_33 : decode cX4_opens 33 = .ok (.aload_n 0, 1) := by decide +kernel
theorem dX4_opens_34 : decode cX4_opens 34 = .ok (.dup, 1) := by decide +kernel
theorem dX4_opens_35 : decode cX4_opens 35 = .ok (.getfield 45, 3) := by decide +kernel
theorem dX4_opens_38 : decode cX4_opens 38 = .ok (.iconst 1, 1) := by decide +kernel
theorem dX4_opens_39 : decode cX4_opens 39 = .ok (.iadd, 1) := by decide +kernel
theorem dX4_opens_40 : decode cX4_opens 40 = .ok (.putfield 45, 3) := by decide +kernel
theorem dX4_opens_43 : decode cX4_opens 43 = .ok (.aload_n 0, 1) := by decide +kernel
theorem dX4_opens_44 : decode cX4_opens 44 = .ok (.invokevirtual 102, 3) := by decide +kernel
theorem dX4_opens_47 : decode cX4_opens 47 = .ok (.iconst 1, 1) := by decide +kernel
theorem dX4_opens_48 : decode cX4_opens 48 = .ok (.ireturn, 1) := by decide +kernel
theorem dX4_closes_0 : decode cX4_closes 0 = .ok (.aload_n 0, 1) := by decide +kernel
theorem dX4_closes_1 : decode cX4_closes 1 = .ok (.getfield 22, 3) := by decide +kernel
theorem dX4_closes_4 : decode cX4_closes 4 = .ok (.aload_n 0, 1) := by decide +kernel
theorem dX4_closes_5 : decode cX4_closes 5 = .ok (.getfield 42, 3) := by decide +kernel
theorem dX4_closes_8 : decode cX4_closes 8 = .ok (.iaload, 1) := by decide +kernel
theorem dX4_closes_9 : decode cX4_closes 9 = .ok (.iload_n 1, 1) := by decide +kernel
theorem dX4_closes_10 : decode cX4_closes 10 = .ok (.if_icmp .eq 8, 3) := by decide +kernel
theorem dX4_closes_13 : decode cX4_closes 13 = .ok (.aload_n 0, 1) := by decide +kernel
theorem dX4_closes_14 : decode cX4_closes 14 = .ok (.invokevirtual 75, 3) := by decide +kernel
theorem dX4_closes_17 : decode cX4_closes 17 = .ok (.ireturn, 1) := by decide +kernel
theorem dX4_closes_18 : decode cX4_closes 18 = .ok (.aload_n 0, 1) := by decide +kernel
theorem dX4_closes_19 : decode cX4_closes 19 = .ok (.dup, 1) := by decide +kernel
theorem dX4_closes_20 : decode cX4_closes 20 = .ok (.getfield 45, 3) := by decide +kernel
theorem dX4_closes_23 : decode cX4_closes 23 = .ok (.iconst 1, 1) := by decide +kernel
theorem dX4_closes_24 : decode cX4_closes 24 = .ok (.isub, 1) := by decide +kernel
theorem dX4_closes_25 : decode cX4_closes 25 = .ok (.putfield 45, 3) := by decide +kernel
theorem dX4_closes_28 : decode cX4_closes 28 = .ok (.aload_n 0, 1) := by decide +kernel
theorem dX4_closes_29 : decode cX4_closes 29 = .ok (.invokevirtual 102, 3) := by decide +kernel
theorem dX4_closes_32 : decode cX4_closes 32 = .ok (.iconst 1, 1) := by decide +kernel
theorem dX4_closes_33 : decode cX4_closes 33 = .ok (.ireturn, 1) := by decide +kernel
theorem dX4_astray_0 : decode cX4_astray 0 = .ok (.aload_n 0, 1) := by decide +kernel
theorem dX4_astray_1 : decode cX4_astray 1 = .ok (.iconst 1, 1) := by decide +kernel
theorem dX4_astray_2 : decode cX4_astray 2 = .ok (.putfield 39, 3) := by decide +kernel
theorem dX4_astray_5 : decode cX4_astray 5 = .ok (.aload_n 0, 1) := by decide +kernel
theorem dX4_astray_6 : decode cX4_astray 6 = .ok (.aload_n 0, 1) := by decide +kernel
theorem dX4_astray_7 : decode cX4_astray 7 = .ok (.getfield 22, 3) := by decide +kernel
theorem dX4_astray_10 : decode cX4_astray 10 = .ok (.aload_n 0, 1) := by decide +kernel
theorem dX4_astray_11 : decode cX4_astray 11 = .ok (.getfield 42, 3) := by decide +kernel
theorem dX4_astray_14 : decode cX4_astray 14 = .ok (.iaload, 1) := by decide +kernel
theorem dX4_astray_15 : decode cX4_astray 15 = .ok (.bipush 27, 2) := by decide +kernel
theorem dX4_astray_17 : decode cX4_astray 17 = .ok (.if_icmp .ne 15, 3) := by decide +kernel
theorem dX4_astray_20 : decode cX4_astray 20 = .ok (.aload_n 0, 1) := by decide +kernel
theorem dX4_astray_21 : decode cX4_astray 21 = .ok (.getfield 29, 3) := by decide +kernel
theorem dX4_astray_24 : decode cX4_astray 24 = .ok (.aload_n 0, 1) := by decide +kernel
theorem dX4_astray_25 : decode cX4_astray 25 = .ok (.getfield 42, 3) := by decide +kernel
theorem dX4_astray_28 : decode cX4_astray 28 = .ok (.iaload, 1) := by decide +kernel
theorem dX4_astray_29 : decode cX4_astray 29 = .ok (.goto 12, 3) := by decide +kernel
theorem dX4_astray_32 : decode cX4_astray 32 = .ok (.aload_n 0, 1) := by decide +kernel
theorem dX4_astray_33 : decode cX4_astray 33 = .ok (.getfield 26, 3) := by decide +kernel
theorem dX4_astray_36 : decode cX4_astray 36 = .ok (.aload_n 0, 1) := by decide +kernel
theorem dX4_astray_37 : decode cX4_astray 37 = .ok (.getfield 42, 3) := by decide +kernel
theorem dX4_astray_40 : decode cX4_astray 40 = .ok (.iaload, 1) := by decide +kernel
theorem dX4_astray_41 : decode cX4_astray 41 = .ok (.putfield 18, 3) := by decide +kernel
theorem dX4_astray_44 : decode cX4_astray 44 = .ok (.iconst 0, 1) := by decide +kernel
theorem dX4_astray_45 : decode cX4_astray 45 = .ok (.ireturn, 1) := by decide +kernel
theorem dX4_wrong_0 : decode cX4_wrong 0 = .ok (.aload_n 0, 1) := by decide +kernel
theorem dX4_wrong_1 : decode cX4_wrong 1 = .ok (.iload_n 1, 1) := by decide +kernel
theorem dX4_wrong_2 : decode cX4_wrong 2 = .ok (.putfield 39, 3) := by decide +kernel
theorem dX4_wrong_5 : decode cX4_wrong 5 = .ok (.aload_n 0, 1) := by decide +kernel
theorem dX4_wrong_6 : decode cX4_wrong 6 = .ok (.aload_n 0, 1) := by decide +kernel
theorem dX4_wrong_7 : decode cX4_wrong 7 = .ok (.getfield 26, 3) := by decide +kernel
theorem dX4_wrong_10 : decode cX4_wrong 10 = .ok (.aload_n 0, 1) := by decide +kernel
theorem dX4_wrong_11 : decode cX4_wrong 11 = .ok (.getfield 42, 3) := by decide +kernel
theorem dX4_wrong_14 : decode cX4_wrong 14 = .ok (.iaload, 1) := by decide +kernel
theorem dX4_wrong_15 : decode cX4_wrong 15 = .ok (.putfield 18, 3) := by decide +kernel
theorem dX4_wrong_18 : decode cX4_wrong 18 = .ok (.iconst 0, 1) := by decide +kernel
theorem dX4_wrong_19 : decode cX4_wrong 19 = .ok (.ireturn, 1) := by decide +kernel
theorem dX4_split_0 : decode cX4_split 0 = .ok (.aload_n 0, 1) := by decide +kernel
theorem dX4_split_1 : decode cX4_split 1 = .ok (.iconst 0, 1) := by decide +kernel
theorem dX4_split_2 : decode cX4_split 2 = .ok (.putfield 213, 3) := by decide +kernel
theorem dX4_split_5 : decode cX4_split 5 = .ok (.iconst 0, 1) := by decide +kernel
theorem dX4_split_6 : decode cX4_split 6 = .ok (.istore_n 3, 1) := by decide +kernel
theorem dX4_split_7 : decode cX4_split 7 = .ok (.iconst 0, 1) := by decide +kernel
theorem dX4_split_8 : decode cX4_split 8 = .ok (.istore 4, 2) := by decide +kernel
theorem dX4_split_10 : decode cX4_split 10 = .ok (.iload 4, 2) := by decide +kernel
theorem dX4_split_12 : decode cX4_split 12 = .ok (.sipush 1600, 3) := by decide +kernel
theorem dX4_split_15 : decode cX4_split 15 = .ok (.if_icmp .gt 134, 3) := by decide +kernel
theorem dX4_split_18 : decode cX4_split 18 = .ok (.aload_n 1, 1) := by decide +kernel
theorem dX4_split_19 : decode cX4_split 19 = .ok (.iload_n 2, 1) := by decide +kernel
theorem dX4_split_20 : decode cX4_split 20 = .ok (.iload_n 3, 1) := by decide +kernel
theorem dX4_split_21 : decode cX4_split 21 = .ok (.invokestatic 216, 3) := by decide +kernel
theorem dX4_split_24 : decode cX4_split 24 = .ok (.istore 5, 2) := by decide +kernel
theorem dX4_split_26 : decode cX4_split 26 = .ok (.aload_n 0, 1) := by decide +kernel
theorem dX4_split_27 : decode cX4_split 27 = .ok (.getfield 213, 3) := by decide +kernel
theorem dX4_split_30 : decode cX4_split 30 = .ok (.ifCond .le 29, 3) := by decide +kernel
theorem dX4_split_33 : decode cX4_split 33 = .ok (.aload_n 0, 1) := by decide +kernel
theorem dX4_split_34 : decode cX4_split 34 = .ok (.getfield 22, 3) := by decide +kernel
theorem dX4_split_37 : decode cX4_split 37 = .ok (.aload_n 0, 1) := by decide +kernel
theorem dX4_split_38 : decode cX4_split 38 = .ok (.getfield 213, 3) := by decide +kernel
theorem dX4_split_41 : decode cX4_split 41 = .ok (.iconst 1, 1) := by decide +kernel
theorem dX4_split_42 : decode cX4_split 42 = .ok (.isub, 1) := by decide +kernel
theorem dX4_split_43 : decode cX4_split 43 = .ok (.iaload, 1) := by decide +kernel
theorem dX4_split_44 : decode cX4_split 44 = .ok (.bipush 26, 2) := by decide +kernel
theorem dX4_split_46 : decode cX4_split 46 = .ok (.if_icmp .ge 13, 3) := by decide +kernel
theorem dX4_split_49 : decode cX4_split 49 = .ok (.iload 5, 2) := by decide +kernel
theorem dX4_split_51 : decode cX4_split 51 = .ok (.iload_n 3, 1) := by decide +kernel
theorem dX4_split_52 : decode cX4_split 52 = .ok (.if_icmp .ne 7, 3) := by decide +kernel
theorem dX4_split_55 : decode cX4_split 55 = .ok (.iconst 1, 1) := by decide +kernel
theorem dX4_split_56 : decode cX4_split 56 = .ok (.goto 4, 3) := by decide +kernel
theorem dX4_split_59 : decode cX4_split 59 = .ok (.iconst 0, 1) := by decide +kernel
theorem dX4_split_60 : decode cX4_split 60 = .ok (.istore 6, 2) := by decide +kernel
theorem dX4_split_62 : decode cX4_split 62 = .ok (.iload 6, 2) := by decide +kernel
theorem dX4_split_64 : decode cX4_split 64 = .ok (.ifCond .eq 30, 3) := by decide +kernel
theorem dX4_split_67 : decode cX4_split 67 = .ok (.iload 5, 2) := by decide +kernel
theorem dX4_split_69 : decode cX4_split 69 = .ok (.iload_n 2, 1) := by decide +kernel
theorem dX4_split_70 : decode cX4_split 70 = .ok (.if_icmp .ge 24, 3) := by decide +kernel
theorem dX4_split_73 : decode cX4_split 73 = .ok (.aload_n 1, 1) := by decide +kernel
theorem dX4_split_74 : decode cX4_split 74 = .ok (.iload 5, 2) := by decide +kernel
theorem dX4_split_76 : decode cX4_split 76 = .ok (.iaload, 1) := by decide +kernel
theorem dX4_split_77 : decode cX4_split 77 = .ok (.invokestatic 220, 3) := by decide +kernel
theorem dX4_split_80 : decode cX4_split 80 = .ok (.ifCond .eq 14, 3) := by decide +kernel
theorem dX4_split_83 : decode cX4_split 83 = .ok (.aload_n 0, 1) := by decide +kernel
theorem dX4_split_84 : decode cX4_split 84 = .ok (.bipush 27, 2) := by decide +kernel
theorem dX4_split_86 : decode cX4_split 86 = .ok (.iload 5, 2) := by decide +kernel
theorem dX4_split_88 : decode cX4_split 88 = .ok (.iload 5, 2) := by decide +kernel
theorem dX4_split_90 : decode cX4_split 90 = .ok (.invokevirtual 223, 3) := by decide +kernel
theorem dX4_split_93 : decode cX4_split 93 = .ok (.return_, 1) := by decide +kernel
theorem dX4_split_94 : decode cX4_split 94 = .ok (.aload_n 1, 1) := by decide +kernel
theorem dX4_split_95 : decode cX4_split 95 = .ok (.iload_n 2, 1) := by decide +kernel
theorem dX4_split_96 : decode cX4_split 96 = .ok (.iload 5, 2) := by decide +kernel
theorem dX4_split_98 : decode cX4_split 98 = .ok (.invokestatic 226, 3) := by decide +kernel
theorem dX4_split_101 : decode cX4_split 101 = .ok (.istore_n 3, 1) := by decide +kernel
theorem dX4_split_102 : decode cX4_split 102 = .ok (.aload_n 1, 1) := by decide +kernel
theorem dX4_split_103 : decode cX4_split 103 = .ok (.iload 5, 2) := by decide +kernel
theorem dX4_split_105 : decode cX4_split 105 = .ok (.iload_n 3, 1) := by decide +kernel
theorem dX4_split_106 : decode cX4_split 106 = .ok (.invokestatic 229, 3) := by decide +kernel
theorem dX4_split_109 : decode cX4_split 109 = .ok (.istore 7, 2) := by decide +kernel
theorem dX4_split_111 : decode cX4_split 111 = .ok (.aload_n 0, 1) := by decide +kernel
theorem dX4_split_112 : decode cX4_split 112 = .ok (.iload 7, 2) := by decide +kernel
theorem dX4_split_114 : decode cX4_split 114 = .ok (.iload 5, 2) := by decide +kernel
theorem dX4_split_116 : decode cX4_split 116 = .ok (.iload 7, 2) := by decide +kernel
theorem dX4_split_118 : decode cX4_split 118 = .ok (.aload_n 1, 1) := by decide +kernel
theorem dX4_split_119 : decode cX4_split 119 = .ok (.iload 5, 2) := by decide +kernel
theorem dX4_split_121 : decode cX4_split 121 = .ok (.iload_n 3, 1) := by decide +kernel
theorem dX4_split_122 : decode cX4_split 122 = .ok (.invokestatic 232, 3) := by decide +kernel
theorem dX4_split_125 : decode cX4_split 125 = .ok (.invokevirtual 223, 3) := by decide +kernel
theorem dX4_split_128 : decode cX4_split 128 = .ok (.iload 7, 2) := by decide +kernel
theorem dX4_split_130 : decode cX4_split 130 = .ok (.bipush 26, 2) := by decide +kernel
theorem dX4_split_132 : decode cX4_split 132 = .ok (.if_icmp .eq 10, 3) := by decide +kernel
theorem dX4_split_135 : decode cX4_split 135 = .ok (.iload 7, 2) := by decide +kernel
theorem dX4_split_137 : decode cX4_split 137 = .ok (.bipush 27, 2) := by decide +kernel
theorem dX4_split_139 : decode cX4_split 139 = .ok (.if_icmp .ne 4, 3) := by decide +kernel
theorem dX4_split_142 : decode cX4_split 142 = .ok (.return_, 1) := by decide +kernel
theorem dX4_split_143 : decode cX4_split 143 = .ok (.iinc 4 1, 3) := by decide +kernel
theorem dX4_split_146 : decode cX4_split 146 = .ok (.goto (-136), 3) := by decide +kernel
theorem dX4_split_149 : decode cX4_split 149 = .ok (.return_, 1) := by decide +kernel
theorem dX4_add_0 : decode cX4_add 0 = .ok (.aload_n 0, 1) := by decide +kernel
theorem dX4_add_1 : decode cX4_add 1 = .ok (.getfield 213, 3) := by decide +kernel
theorem dX4_add_4 : decode cX4_add 4 = .ok (.sipush 1600, 3) := by decide +kernel
theorem dX4_add_7 : decode cX4_add 7 = .ok (.if_icmp .gt 43, 3) := by decide +kernel
theorem dX4_add_10 : decode cX4_add 10 = .ok (.aload_n 0, 1) := by decide +kernel
theorem dX4_add_11 : decode cX4_add 11 = .ok (.getfield 22, 3) := by decide +kernel
theorem dX4_add_14 : decode cX4_add 14 = .ok (.aload_n 0, 1) := by decide +kernel
theorem dX4_add_15 : decode cX4_add 15 = .ok (.getfield 213, 3) := by decide +kernel
theorem dX4_add_18 : decode cX4_add 18 = .ok (.iload_n 1, 1) := by decide +kernel
theorem dX4_add_19 : decode cX4_add 19 = .ok (.iastore, 1) := by decide +kernel
theorem dX4_add_20 : decode cX4_add 20 = .ok (.aload_n 0, 1) := by decide +kernel
theorem dX4_add_21 : decode cX4_add 21 = .ok (.getfield 26, 3) := by decide +kernel
theorem dX4_add_24 : decode cX4_add 24 = .ok (.aload_n 0, 1) := by decide +kernel
theorem dX4_add_25 : decode cX4_add 25 = .ok (.getfield 213, 3) := by decide +kernel
theorem dX4_add_28 : decode cX4_add 28 = .ok (.iload_n 2, 1) := by decide +kernel
theorem dX4_add_29 : decode cX4_add 29 = .ok (.iastore, 1) := by decide +kernel
theorem dX4_add_30 : decode cX4_add 30 = .ok (.aload_n 0, 1) := by decide +kernel
theorem dX4_add_31 : decode cX4_add 31 = .ok (.getfield 29, 3) := by decide +kernel
theorem dX4_add_34 : decode cX4_add 34 = .ok (.aload_n 0, 1) := by decide +kernel
theorem dX4_add_35 : decode cX4_add 35 = .ok (.getfield 213, 3) := by decide +kernel
theorem dX4_add_38 : decode cX4_add 38 = .ok (.iload_n 3, 1) := by decide +kernel
theorem dX4_add_39 : decode cX4_add 39 = .ok (.iastore, 1) := by decide +kernel
theorem dX4_add_40 : decode cX4_add 40 = .ok (.aload_n 0, 1) := by decide +kernel
theorem dX4_add_41 : decode cX4_add 41 = .ok (.dup, 1) := by decide +kernel
theorem dX4_add_42 : decode cX4_add 42 = .ok (.getfield 213, 3) := by decide +kernel
theorem dX4_add_45 : decode cX4_add 45 = .ok (.iconst 1, 1) := by decide +kernel
theorem dX4_add_46 : decode cX4_add 46 = .ok (.iadd, 1) := by decide +kernel
theorem dX4_add_47 : decode cX4_add 47 = .ok (.putfield 213, 3) := by decide +kernel
theorem dX4_add_50 : decode cX4_add 50 = .ok (.return_, 1) := by decide +kernel
theorem dX4_behindBlanks_0 : decode cX4_behindBlanks 0 = .ok (.iload_n 2, 1) := by decide +kernel
theorem dX4_behindBlanks_1 : decode cX4_behindBlanks 1 = .ok (.istore_n 3, 1) := by decide +kernel
theorem dX4_behindBlanks_2 : decode cX4_behindBlanks 2 = .ok (.iload_n 3, 1) := by decide +kernel
theorem dX4_behindBlanks_3 : decode cX4_behindBlanks 3 = .ok (.iload_n 1, 1) := by decide +kernel
theorem dX4_behindBlanks_4 : decode cX4_behindBlanks 4 = .ok (.if_icmp .ge 25, 3) := by decide +kernel
theorem dX4_behindBlanks_7 : decode cX4_behindBlanks 7 = .ok (.aload_n 0, 1) := by decide +kernel
theorem dX4_behindBlanks_8 : decode cX4_behindBlanks 8 = .ok (.iload_n 3, 1) := by decide +kernel
theorem dX4_behindBlanks_9 : decode cX4_behindBlanks 9 = .ok (.iaload, 1) := by decide +kernel
theorem dX4_behindBlanks_10 : decode cX4_behindBlanks 10 = .ok (.bipush 32, 2) := by decide +kernel
theorem dX4_behindBlanks_12 : decode cX4_behindBlanks 12 = .ok (.if_icmp .eq 11, 3) := by decide +kernel
theorem dX4_behindBlanks_15 : decode cX4_behindBlanks 15 = .ok (.aload_n 0, 1) := by decide +kernel
theorem dX4_behindBlanks_16 : decode cX4_behindBlanks 16 = .ok (.iload_n 3, 1) := by decide +kernel
theorem dX4_behindBlanks_17 : decode cX4_behindBlanks 17 = .ok (.iaload, 1) := by decide +kernel
theorem dX4_behindBlanks_18 : decode cX4_behindBlanks 18 = .ok (.bipush 10, 2) := by decide +kernel
theorem dX4_behindBlanks_20 : decode cX4_behindBlanks 20 = .ok (.if_icmp .ne 9, 3) := by decide +kernel
theorem dX4_behindBlanks_23 : decode cX4_behindBlanks 23 = .ok (.iinc 3 1, 3) := by decide +kernel
theorem dX4_behindBlanks_26 : decode cX4_behindBlanks 26 = .ok (.goto (-24), 3) := by decide +kernel
theorem dX4_behindBlanks_29 : decode cX4_behindBlanks 29 = .ok (.iload_n 3, 1) := by decide +kernel
theorem dX4_behindBlanks_30 : decode cX4_behindBlanks 30 = .ok (.ireturn, 1) := by decide +kernel
theorem dX4_endOfRun_0 : decode cX4_endOfRun 0 = .ok (.iload_n 2, 1) := by decide +kernel
theorem dX4_endOfRun_1 : decode cX4_endOfRun 1 = .ok (.iload_n 1, 1) := by decide +kernel
theorem dX4_endOfRun_2 : decode cX4_endOfRun 2 = .ok (.if_icmp .lt 5, 3) := by decide +kernel
theorem dX4_endOfRun_5 : decode cX4_endOfRun 5 = .ok (.iload_n 2, 1) := by decide +kernel
theorem dX4_endOfRun_6 : decode cX4_endOfRun 6 = .ok (.ireturn, 1) := by decide +kernel
theorem dX4_endOfRun_7 : decode cX4_endOfRun 7 = .ok (.iload_n 2, 1) := by decide +kernel
theorem dX4_endOfRun_8 : decode cX4_endOfRun 8 = .ok (.iconst 1, 1) := by decide +kernel
theorem dX4_endOfRun_9 : decode cX4_endOfRun 9 = .ok (.iadd, 1) := by decide +kernel
theorem dX4_endOfRun_10 : decode cX4_endOfRun 10 = .ok (.istore_n 3, 1) := by decide +kernel
theorem dX4_endOfRun_11 : decode cX4_endOfRun 11 = .ok (.aload_n 0, 1) := by decide +kernel
theorem dX4_endOfRun_12 : decode cX4_endOfRun 12 = .ok (.iload_n 2, 1) := by decide +kernel
theorem dX4_endOfRun_13 : decode cX4_endOfRun 13 = .ok (.iaload, 1) := by decide +kernel
theorem dX4_endOfRun_14 : decode cX4_endOfRun 14 = .ok (.invokestatic 236, 3) := by decide +kernel
theorem dX4_endOfRun_17 : decode cX4_endOfRun 17 = .ok (.ifCond .eq 23, 3) := by decide +kernel
theorem dX4_endOfRun_20 : decode cX4_endOfRun 20 = .ok (.iload_n 3, 1) := by decide +kernel
theorem dX4_endOfRun_21 : decode cX4_endOfRun 21 = .ok (.iload_n 1, 1) := by decide +kernel
theorem dX4_endOfRun_22 : decode cX4_endOfRun 22 = .ok (.if_icmp .ge 47, 3) := by decide +kernel
theorem dX4_endOfRun_25 : decode cX4_endOfRun 25 = .ok (.aload_n 0, 1) := by decide +kernel
theorem dX4_endOfRun_26 : decode cX4_endOfRun 26 = .ok (.iload_n 3, 1) := by decide +kernel
theorem dX4_endOfRun_27 : decode cX4_endOfRun 27 = .ok (.iaload, 1) := by decide +kernel
theorem dX4_endOfRun_28 : decode cX4_endOfRun 28 = .ok (.invokestatic 236, 3) := by decide +kernel
theorem dX4_endOfRun_31 : decode cX4_endOfRun 31 = .ok (.ifCond .eq 38, 3) := by decide +kernel
theorem dX4_endOfRun_34 : decode cX4_endOfRun 34 = .ok (.iinc 3 1, 3) := by decide +kernel
theorem dX4_endOfRun_37 : decode cX4_endOfRun 37 = .ok (.goto (-17), 3) := by decide +kernel
theorem dX4_endOfRun_40 : decode cX4_endOfRun 40 = .ok (.aload_n 0, 1) := by decide +kernel
theorem dX4_endOfRun_41 : decode cX4_endOfRun 41 = .ok (.iload_n 2, 1) := by decide +kernel
theorem dX4_endOfRun_42 : decode cX4_endOfRun 42 = .ok (.iaload, 1) := by decide +kernel
theorem dX4_endOfRun_43 : decode cX4_endOfRun 43 = .ok (.invokestatic 239, 3) := by decide +kernel
theorem dX4_endOfRun_46 : decode cX4_endOfRun 46 = .ok (.ifCond .eq 23, 3) := by decide +kernel
theorem dX4_endOfRun_49 : decode cX4_endOfRun 49 = .ok (.iload_n 3, 1) := by decide +kernel
theorem dX4_endOfRun_50 : decode cX4_endOfRun 50 = .ok (.iload_n 1, 1) := by decide +kernel
theorem dX4_endOfRun_51 : decode cX4_endOfRun 51 = .ok (.if_icmp .ge 18, 3) := by decide +kernel
theorem dX4_endOfRun_54 : decode cX4_endOfRun 54 = .ok (.aload_n 0, 1) := by decide +kernel
theorem dX4_endOfRun_55 : decode cX4_endOfRun 55 = .ok (.iload_n 3, 1) := by decide +kernel
theorem dX4_endOfRun_56 : decode cX4_endOfRun 56 = .ok (.iaload, 1) := by decide +kernel
theorem dX4_endOfRun_57 : decode cX4_endOfRun 57 = .ok (.invokestatic 239, 3) := by decide +kernel
theorem dX4_endOfRun_60 : decode cX4_endOfRun 60 = .ok (.ifCond .eq 9, 3) := by decide +kernel
theorem dX4_endOfRun_63 : decode cX4_endOfRun 63 = .ok (.iinc 3 1, 3) := by decide +kernel
theorem dX4_endOfRun_66 : decode cX4_endOfRun 66 = .ok (.goto (-17), 3) := by decide +kernel
theorem dX4_endOfRun_69 : decode cX4_endOfRun 69 = .ok (.iload_n 3, 1) := by decide +kernel
theorem dX4_endOfRun_70 : decode cX4_endOfRun 70 = .ok (.ireturn, 1) := by decide +kernel
theorem dX4_tokenAt_0 : decode cX4_tokenAt 0 = .ok (.iload_n 1, 1) := by decide +kernel
theorem dX4_tokenAt_1 : decode cX4_tokenAt 1 = .ok (.iload_n 2, 1) := by decide +kernel
theorem dX4_tokenAt_2 : decode cX4_tokenAt 2 = .ok (.if_icmp .lt 6, 3) := by decide +kernel
theorem dX4_tokenAt_5 : decode cX4_tokenAt 5 = .ok (.bipush 26, 2) := by decide +kernel
theorem dX4_tokenAt_7 : decode cX4_tokenAt 7 = .ok (.ireturn, 1) := by decide +kernel
theorem dX4_tokenAt_8 : decode cX4_tokenAt 8 = .ok (.aload_n 0, 1) := by decide +kernel
theorem dX4_tokenAt_9 : decode cX4_tokenAt 9 = .ok (.iload_n 1, 1) := by decide +kernel
theorem dX4_tokenAt_10 : decode cX4_tokenAt 10 = .ok (.iaload, 1) := by decide +kernel
theorem dX4_tokenAt_11 : decode cX4_tokenAt 11 = .ok (.invokestatic 236, 3) := by decide +kernel
theorem dX4_tokenAt_14 : decode cX4_tokenAt 14 = .ok (.ifCond .eq 23, 3) := by decide +kernel
theorem dX4_tokenAt_17 : decode cX4_tokenAt 17 = .ok (.iload_n 2, 1) := by decide +kernel
theorem dX4_tokenAt_18 : decode cX4_tokenAt 18 = .ok (.iload_n 1, 1) := by decide +kernel
theorem dX4_tokenAt_19 : decode cX4_tokenAt 19 = .ok (.isub, 1) := by decide +kernel
theorem dX4_tokenAt_20 : decode cX4_tokenAt 20 = .ok (.bipush 6, 2) := by decide +kernel
theorem dX4_tokenAt_22 : decode cX4_tokenAt 22 = .ok (.if_icmp .le 8, 3) := by decide +kernel
theorem dX4_tokenAt_25 : decode cX4_tokenAt 25 = .ok (.bipush 27, 2) := by decide +kernel
theorem dX4_tokenAt_27 : decode cX4_tokenAt 27 = .ok (.goto 9, 3) := by decide +kernel
theorem dX4_tokenAt_30 : decode cX4_tokenAt 30 = .ok (.aload_n 0, 1) := by decide +kernel
theorem dX4_tokenAt_31 : decode cX4_tokenAt 31 = .ok (.iload_n 1, 1) := by decide +kernel
theorem dX4_tokenAt_32 : decode cX4_tokenAt 32 = .ok (.iload_n 2, 1) := by decide +kernel
theorem dX4_tokenAt_33 : decode cX4_tokenAt 33 = .ok (.invokestatic 242, 3) := by decide +kernel
theorem dX4_tokenAt_36 : decode cX4_tokenAt 36 = .ok (.ireturn, 1) := by decide +kernel
theorem dX4_tokenAt_37 : decode cX4_tokenAt 37 = .ok (.aload_n 0, 1) := by decide +kernel
theorem dX4_tokenAt_38 : decode cX4_tokenAt 38 = .ok (.iload_n 1, 1) := by decide +kernel
theorem dX4_tokenAt_39 : decode cX4_tokenAt 39 = .ok (.iaload, 1) := by decide +kernel
theorem dX4_tokenAt_40 : decode cX4_tokenAt 40 = .ok (.invokestatic 239, 3) := by decide +kernel
theorem dX4_tokenAt_43 : decode cX4_tokenAt 43 = .ok (.ifCond .eq 18, 3) := by decide +kernel
theorem dX4_tokenAt_46 : decode cX4_tokenAt 46 = .ok (.iload_n 2, 1) := by decide +kernel
theorem dX4_tokenAt_47 : decode cX4_tokenAt 47 = .ok (.iload_n 1, 1) := by decide +kernel
theorem dX4_tokenAt_48 : decode cX4_tokenAt 48 = .ok (.isub, 1) := by decide +kernel
theorem dX4_tokenAt_49 : decode cX4_tokenAt 49 = .ok (.iconst 4, 1) := by decide +kernel
theorem dX4_tokenAt_50 : decode cX4_tokenAt 50 = .ok (.if_icmp .le 8, 3) := by decide +kernel
theorem dX4_tokenAt_53 : decode cX4_tokenAt 53 = .ok (.bipush 27, 2) := by decide +kernel
theorem dX4_tokenAt_55 : decode cX4_tokenAt 55 = .ok (.goto 5, 3) := by decide +kernel
theorem dX4_tokenAt_58 : decode cX4_tokenAt 58 = .ok (.bipush 25, 2) := by decide +kernel
theorem dX4_tokenAt_60 : decode cX4_tokenAt 60 = .ok (.ireturn, 1) := by decide +kernel
theorem dX4_tokenAt_61 : decode cX4_tokenAt 61 = .ok (.ldc 245, 2) := by decide +kernel
theorem dX4_tokenAt_63 : decode cX4_tokenAt 63 = .ok (.aload_n 0, 1) := by decide +kernel
theorem dX4_tokenAt_64 : decode cX4_tokenAt 64 = .ok (.iload_n 1, 1) := by decide +kernel
theorem dX4_tokenAt_65 : decode cX4_tokenAt 65 = .ok (.iaload, 1) := by decide +kernel
theorem dX4_tokenAt_66 : decode cX4_tokenAt 66 = .ok (.i2c, 1) := by decide +kernel
theorem dX4_tokenAt_67 : decode cX4_tokenAt 67 = .ok (.invokevirtual 247, 3) := by decide +kernel
theorem dX4_tokenAt_70 : decode cX4_tokenAt 70 = .ok (.ifCond .ge 8, 3) := by decide +kernel
theorem dX4_tokenAt_73 : decode cX4_tokenAt 73 = .ok (.bipush 27, 2) := by decide +kernel
theorem dX4_tokenAt_75 : decode cX4_tokenAt 75 = .ok (.goto 6, 3) := by decide +kernel
theorem dX4_tokenAt_78 : decode cX4_tokenAt 78 = .ok (.aload_n 0, 1) := by decide +kernel
theorem dX4_tokenAt_79 : decode cX4_tokenAt 79 = .ok (.iload_n 1, 1) := by decide +kernel
theorem dX4_tokenAt_80 : decode cX4_tokenAt 80 = .ok (.iaload, 1) := by decide +kernel
theorem dX4_tokenAt_81 : decode cX4_tokenAt 81 = .ok (.ireturn, 1) := by decide +kernel
theorem dX4_valueOf_0 : decode cX4_valueOf 0 = .ok (.iload_n 0, 1) := by decide +kernel
theorem dX4_valueOf_1 : decode cX4_valueOf 1 = .ok (.bipush 25, 2) := by decide +kernel
theorem dX4_valueOf_3 : decode cX4_valueOf 3 = .ok (.if_icmp .ne 39, 3) := by decide +kernel
theorem dX4_valueOf_6 : decode cX4_valueOf 6 = .ok (.iconst 0, 1) := by decide +kernel
theorem dX4_valueOf_7 : decode cX4_valueOf 7 = .ok (.istore 4, 2) := by decide +kernel
theorem dX4_valueOf_9 : decode cX4_valueOf 9 = .ok (.iload_n 2, 1) := by decide +kernel
theorem dX4_valueOf_10 : decode cX4_valueOf 10 = .ok (.istore 5, 2) := by decide +kernel
theorem dX4_valueOf_12 : decode cX4_valueOf 12 = .ok (.iload 5, 2) := by decide +kernel
theorem dX4_valueOf_14 : decode cX4_valueOf 14 = .ok (.iload_n 3, 1) := by decide +kernel
theorem dX4_valueOf_15 : decode cX4_valueOf 15 = .ok (.if_icmp .ge 24, 3) := by decide +kernel
theorem dX4_valueOf_18 : decode cX4_valueOf 18 = .ok (.iload 4, 2) := by decide +kernel
theorem dX4_valueOf_20 : decode cX4_valueOf 20 = .ok (.bipush 10, 2) := by decide +kernel
theorem dX4_valueOf_22 : decode cX4_valueOf 22 = .ok (.imul, 1) := by decide +kernel
theorem dX4_valueOf_23 : decode cX4_valueOf 23 = .ok (.aload_n 1, 1) := by decide +kernel
theorem dX4_valueOf_24 : decode cX4_valueOf 24 = .ok (.iload 5, 2) := by decide +kernel
theorem dX4_valueOf_26 : decode cX4_valueOf 26 = .ok (.iaload, 1) := by decide +kernel
theorem dX4_valueOf_27 : decode cX4_valueOf 27 = .ok (.iadd, 1) := by decide +kernel
theorem dX4_valueOf_28 : decode cX4_valueOf 28 = .ok (.bipush 48, 2) := by decide +kernel
theorem dX4_valueOf_30 : decode cX4_valueOf 30 = .ok (.isub, 1) := by decide +kernel
theorem dX4_valueOf_31 : decode cX4_valueOf 31 = .ok (.istore 4, 2) := by decide +kernel
theorem dX4_valueOf_33 : decode cX4_valueOf 33 = .ok (.iinc 5 1, 3) := by decide +kernel
theorem dX4_valueOf_36 : decode cX4_valueOf 36 = .ok (.goto (-24), 3) := by decide +kernel
theorem dX4_valueOf_39 : decode cX4_valueOf 39 = .ok (.iload 4, 2) := by decide +kernel
theorem dX4_valueOf_41 : decode cX4_valueOf 41 = .ok (.ireturn, 1) := by decide +kernel
theorem dX4_valueOf_42 : decode cX4_valueOf 42 = .ok (.iload_n 0, 1) := by decide +kernel
theorem dX4_valueOf_43 : decode cX4_valueOf 43 = .ok (.bipush 27, 2) := by decide +kernel
theorem dX4_valueOf_45 : decode cX4_valueOf 45 = .ok (.if_icmp .ne 41, 3) := by decide +kernel
theorem dX4_valueOf_48 : decode cX4_valueOf 48 = .ok (.iload_n 2, 1) := by decide +kernel
theorem dX4_valueOf_49 : decode cX4_valueOf 49 = .ok (.iload_n 3, 1) := by decide +kernel
theorem dX4_valueOf_50 : decode cX4_valueOf 50 = .ok (.if_icmp .ge 36, 3) := by decide +kernel
theorem dX4_valueOf_53 : decode cX4_valueOf 53 = .ok (.aload_n 1, 1) := by decide +kernel
theorem dX4_valueOf_54 : decode cX4_valueOf 54 = .ok (.iload_n 2, 1) := by decide +kernel
theorem dX4_valueOf_55 : decode cX4_valueOf 55 = .ok (.iaload, 1) := by decide +kernel
theorem dX4_valueOf_56 : decode cX4_valueOf 56 = .ok (.invokestatic 236, 3) := by decide +kernel
theorem dX4_valueOf_59 : decode cX4_valueOf 59 = .ok (.ifCond .eq 10, 3) := by decide +kernel
theorem dX4_valueOf_62 : decode cX4_valueOf 62 = .ok (.iload_n 2, 1) := by decide +kernel
theorem dX4_valueOf_63 : decode cX4_valueOf 63 = .ok (.bipush 6, 2) := by decide +kernel
theorem dX4_valueOf_65 : decode cX4_valueOf 65 = .ok (.iadd, 1) := by decide +kernel
theorem dX4_valueOf_66 : decode cX4_valueOf 66 = .ok (.goto 19, 3) := by decide +kernel
theorem dX4_valueOf_69 : decode cX4_valueOf 69 = .ok (.aload_n 1, 1) := by decide +kernel
theorem dX4_valueOf_70 : decode cX4_valueOf 70 = .ok (.iload_n 2, 1) := by decide +kernel
theorem dX4_valueOf_71 : decode cX4_valueOf 71 = .ok (.iaload, 1) := by decide +kernel
theorem dX4_valueOf_72 : decode cX4_valueOf 72 = .ok (.invokestatic 239, 3) := by decide +kernel
theorem dX4_valueOf_75 : decode cX4_valueOf 75 = .ok (.ifCond .eq 9, 3) := by decide +kernel
theorem dX4_valueOf_78 : decode cX4_valueOf 78 = .ok (.iload_n 2, 1) := by decide +kernel
theorem dX4_valueOf_79 : decode cX4_valueOf 79 = .ok (.iconst 4, 1) := by decide +kernel
theorem dX4_valueOf_80 : decode cX4_valueOf 80 = .ok (.iadd, 1) := by decide +kernel
theorem dX4_valueOf_81 : decode cX4_valueOf 81 = .ok (.goto 4, 3) := by decide +kernel
theorem dX4_valueOf_84 : decode cX4_valueOf 84 = .ok (.iload_n 2, 1) := by decide +kernel
theorem dX4_valueOf_85 : decode cX4_valueOf 85 = .ok (.ireturn, 1) := by decide +kernel
theorem dX4_valueOf_86 : decode cX4_valueOf 86 = .ok (.iload_n 3, 1) := by decide +kernel
theorem dX4_valueOf_87 : decode cX4_valueOf 87 = .ok (.iload_n 2, 1) := by decide +kernel
theorem dX4_valueOf_88 : decode cX4_valueOf 88 = .ok (.isub, 1) := by decide +kernel
theorem dX4_valueOf_89 : decode cX4_valueOf 89 = .ok (.ireturn, 1) := by decide +kernel
theorem dX4_wordAt_0 : decode cX4_wordAt 0 = .ok (.iconst 0, 1) := by decide +kernel
theorem dX4_wordAt_1 : decode cX4_wordAt 1 = .ok (.istore_n 3, 1) := by decide +kernel
theorem dX4_wordAt_2 : decode cX4_wordAt 2 = .ok (.iload_n 1, 1) := by decide +kernel
theorem dX4_wordAt_3 : decode cX4_wordAt 3 = .ok (.istore 4, 2) := by decide +kernel
theorem dX4_wordAt_5 : decode cX4_wordAt 5 = .ok (.iconst 1, 1) := by decide +kernel
theorem dX4_wordAt_6 : decode cX4_wordAt 6 = .ok (.istore 5, 2) := by decide +kernel
theorem dX4_wordAt_8 : decode cX4_wordAt 8 = .ok (.iconst 0, 1) := by decide +kernel
theorem dX4_wordAt_9 : decode cX4_wordAt 9 = .ok (.istore 6, 2) := by decide +kernel
theorem dX4_wordAt_11 : decode cX4_wordAt 11 = .ok (.iload 6, 2) := by decide +kernel
theorem dX4_wordAt_13 : decode cX4_wordAt 13 = .ok (.ldc 253, 2) := by decide +kernel
theorem dX4_wordAt_15 : decode cX4_wordAt 15 = .ok (.invokevirtual 255, 3) := by decide +kernel
theorem dX4_wordAt_18 : decode cX4_wordAt 18 = .ok (.if_icmp .ge 80, 3) := by decide +kernel
theorem dX4_wordAt_21 : decode cX4_wordAt 21 = .ok (.ldc 253, 2) := by decide +kernel
theorem dX4_wordAt_23 : decode cX4_wordAt 23 = .ok (.iload 6, 2) := by decide +kernel
theorem dX4_wordAt_25 : decode cX4_wordAt 25 = .ok (.invokevirtual 258, 3) := by decide +kernel
theorem dX4_wordAt_28 : decode cX4_wordAt 28 = .ok (.istore 7, 2) := by decide +kernel
theorem dX4_wordAt_30 : decode cX4_wordAt 30 = .ok (.iload 7, 2) := by decide +kernel
theorem dX4_wordAt_32 : decode cX4_wordAt 32 = .ok (.bipush 32, 2) := by decide +kernel
theorem dX4_wordAt_34 : decode cX4_wordAt 34 = .ok (.if_icmp .eq 36, 3) := by decide +kernel
theorem dX4_wordAt_37 : decode cX4_wordAt 37 = .ok (.iload 5, 2) := by decide +kernel
theorem dX4_wordAt_39 : decode cX4_wordAt 39 = .ok (.ifCond .eq 22, 3) := by decide +kernel
theorem dX4_wordAt_42 : decode cX4_wordAt 42 = .ok (.iload 4, 2) := by decide +kernel
theorem dX4_wordAt_44 : decode cX4_wordAt 44 = .ok (.iload_n 2, 1) := by decide +kernel
theorem dX4_wordAt_45 : decode cX4_wordAt 45 = .ok (.if_icmp .ge 16, 3) := by decide +kernel
theorem dX4_wordAt_48 : decode cX4_wordAt 48 = .ok (.aload_n 0, 1) := by decide +kernel
theorem dX4_wordAt_49 : decode cX4_wordAt 49 = .ok (.iload 4, 2) := by decide +kernel
theorem dX4_wordAt_51 : decode cX4_wordAt 51 = .ok (.iaload, 1) := by decide +kernel
theorem dX4_wordAt_52 : decode cX4_wordAt 52 = .ok (.iload 7, 2) := by decide +kernel
theorem dX4_wordAt_54 : decode cX4_wordAt 54 = .ok (.if_icmp .ne 7, 3) := by decide +kernel
theorem dX4_wordAt_57 : decode cX4_wordAt 57 = .ok (.iconst 1, 1) := by decide +kernel
theorem dX4_wordAt_58 : decode cX4_wordAt 58 = .ok (.goto 4, 3) := by decide +kernel
theorem dX4_wordAt_61 : decode cX4_wordAt 61 = .ok (.iconst 0, 1) := by decide +kernel
theorem dX4_wordAt_62 : decode cX4_wordAt 62 = .ok (.istore 5, 2) := by decide +kernel
theorem dX4_wordAt_64 : decode cX4_wordAt 64 = .ok (.iinc 4 1, 3) := by decide +kernel
theorem dX4_wordAt_67 : decode cX4_wordAt 67 = .ok (.goto 25, 3) := by decide +kernel
theorem dX4_wordAt_70 : decode cX4_wordAt 70 = .ok (.iload 5, 2) := by decide +kernel
theorem dX4_wordAt_72 : decode cX4_wordAt 72 = .ok (.ifCond .eq 11, 3) := by decide +kernel
theorem dX4_wordAt_75 : decode cX4_wordAt 75 = .ok (.iload 4, 2) := by decide +kernel
theorem dX4_wordAt_77 : decode cX4_wordAt 77 = .ok (.iload_n 2, 1) := by decide +kernel
theorem dX4_wordAt_78 : decode cX4_wordAt 78 = .ok (.if_icmp .ne 5, 3) := by decide +kernel
theorem dX4_wordAt_81 : decode cX4_wordAt 81 = .ok (.iload_n 3, 1) := by decide +kernel
theorem dX4_wordAt_82 : decode cX4_wordAt 82 = .ok (.ireturn, 1) := by decide +kernel
theorem dX4_wordAt_83 : decode cX4_wordAt 83 = .ok (.iinc 3 1, 3) := by decide +kernel
theorem dX4_wordAt_86 : decode cX4_wordAt 86 = .ok (.iload_n 1, 1) := by decide +kernel
theorem dX4_wordAt_87 : decode cX4_wordAt 87 = .ok (.istore 4, 2) := by decide +kernel
theorem dX4_wordAt_89 : decode cX4_wordAt 89 = .ok (.iconst 1, 1) := by decide +kernel
theorem dX4_wordAt_90 : decode cX4_wordAt 90 = .ok (.istore 5, 2) := by decide +kernel
theorem dX4_wordAt_92 : decode cX4_wordAt 92 = .ok (.iinc 6 1, 3) := by decide +kernel
theorem dX4_wordAt_95 : decode cX4_wordAt 95 = .ok (.goto (-84), 3) := by decide +kernel
theorem dX4_wordAt_98 : decode cX4_wordAt 98 = .ok (.bipush 24, 2) := by decide +kernel
theorem dX4_wordAt_100 : decode cX4_wordAt 100 = .ok (.ireturn, 1) := by decide +kernel
theorem dX4_isRun_0 : decode cX4_isRun 0 = .ok (.iload_n 0, 1) := by decide +kernel
theorem dX4_isRun_1 : decode cX4_isRun 1 = .ok (.invokestatic 236, 3) := by decide +kernel
theorem dX4_isRun_4 : decode cX4_isRun 4 = .ok (.ifCond .ne 10, 3) := by decide +kernel
theorem dX4_isRun_7 : decode cX4_isRun 7 = .ok (.iload_n 0, 1) := by decide +kernel
theorem dX4_isRun_8 : decode cX4_isRun 8 = .ok (.invokestatic 239, 3) := by decide +kernel
theorem dX4_isRun_11 : decode cX4_isRun 11 = .ok (.ifCond .eq 7, 3) := by decide +kernel
theorem dX4_isRun_14 : decode cX4_isRun 14 = .ok (.iconst 1, 1) := by decide +kernel
theorem dX4_isRun_15 : decode cX4_isRun 15 = .ok (.goto 4, 3) := by decide +kernel
theorem dX4_isRun_18 : decode cX4_isRun 18 = .ok (.iconst 0, 1) := by decide +kernel
theorem dX4_isRun_19 : decode cX4_isRun 19 = .ok (.ireturn, 1) := by decide +kernel
theorem dX4_isLetter_0 : decode cX4_isLetter 0 = .ok (.iload_n 0, 1) := by decide +kernel
theorem dX4_isLetter_1 : decode cX4_isLetter 1 = .ok (.bipush 97, 2) := by decide +kernel
theorem dX4_isLetter_3 : decode cX4_isLetter 3 = .ok (.if_icmp .lt 13, 3) := by decide +kernel
theorem dX4_isLetter_6 : decode cX4_isLetter 6 = .ok (.iload_n 0, 1) := by decide +kernel
theorem dX4_isLetter_7 : decode cX4_isLetter 7 = .ok (.bipush 122, 2) := by decide +kernel
theorem dX4_isLetter_9 : decode cX4_isLetter 9 = .ok (.if_icmp .gt 7, 3) := by decide +kernel
theorem dX4_isLetter_12 : decode cX4_isLetter 12 = .ok (.iconst 1, 1) := by decide +kernel
theorem dX4_isLetter_13 : decode cX4_isLetter 13 = .ok (.goto 4, 3) := by decide +kernel
theorem dX4_isLetter_16 : decode cX4_isLetter 16 = .ok (.iconst 0, 1) := by decide +kernel
theorem dX4_isLetter_17 : decode cX4_isLetter 17 = .ok (.ireturn, 1) := by decide +kernel
theorem dX4_isDigit_0 : decode cX4_isDigit 0 = .ok (.iload_n 0, 1) := by decide +kernel
theorem dX4_isDigit_1 : decode cX4_isDigit 1 = .ok (.bipush 48, 2) := by decide +kernel
theorem dX4_isDigit_3 : decode cX4_isDigit 3 = .ok (.if_icmp .lt 13, 3) := by decide +kernel
theorem dX4_isDigit_6 : decode cX4_isDigit 6 = .ok (.iload_n 0, 1) := by decide +kernel
theorem dX4_isDigit_7 : decode cX4_isDigit 7 = .ok (.bipush 57, 2) := by decide +kernel
theorem dX4_isDigit_9 : decode cX4_isDigit 9 = .ok (.if_icmp .gt 7, 3) := by decide +kernel
theorem dX4_isDigit_12 : decode cX4_isDigit 12 = .ok (.iconst 1, 1) := by decide +kernel
theorem dX4_isDigit_13 : decode cX4_isDigit 13 = .ok (.goto 4, 3) := by decide +kernel
theorem dX4_isDigit_16 : decode cX4_isDigit 16 = .ok (.iconst 0, 1) := by decide +kernel
theorem dX4_isDigit_17 : decode cX4_isDigit 17 = .ok (.ireturn, 1) := by decide +kernel
theorem dX5_init_0 : decode cX5_init 0 = .ok (.aload_n 0, 1) := by decide +kernel
theorem dX5_init_1 : decode cX5_init 1 = .ok (.invokespecial 3, 3) := by decide +kernel
theorem dX5_init_4 : decode cX5_init 4 = .ok (.aload_n 0, 1) := by decide +kernel
theorem dX5_init_5 : decode cX5_init 5 = .ok (.bipush 64, 2) := by decide +kernel
theorem dX5_init_7 : decode cX5_init 7 = .ok (.newarray .int, 2) := by decide +kernel
theorem dX5_init_9 : decode cX5_init 9 = .ok (.putfield 9, 3) := by decide +kernel
theorem dX5_init_12 : decode cX5_init 12 = .ok (.aload_n 0, 1) := by decide +kernel
theorem dX5_init_13 : decode cX5_init 13 = .ok (.bipush 6, 2) := by decide +kernel
theorem dX5_init_15 : decode cX5_init 15 = .ok (.newarray .int, 2) := by decide +kernel
theorem dX5_init_17 : decode cX5_init 17 = .ok (.putfield 15, 3) := by decide +kernel
theorem dX5_init_20 : decode cX5_init 20 = .ok (.aload_n 0, 1) := by decide +kernel
theorem dX5_init_21 : decode cX5_init 21 = .ok (.bipush 6, 2) := by decide +kernel
theorem dX5_init_23 : decode cX5_init 23 = .ok (.newarray .int, 2) := by decide +kernel
theorem dX5_init_25 : decode cX5_init 25 = .ok (.putfield 18, 3) := by decide +kernel
theorem dX5_init_28 : decode cX5_init 28 = .ok (.aload_n 0, 1) := by decide +kernel
theorem dX5_init_29 : decode cX5_init 29 = .ok (.bipush 6, 2) := by decide +kernel
theorem dX5_init_31 : decode cX5_init 31 = .ok (.newarray .int, 2) := by decide +kernel
theorem dX5_init_33 : decode cX5_init 33 = .ok (.putfield 21, 3) := by decide +kernel
theorem dX5_init_36 : decode cX5_init 36 = .ok (.aload_n 0, 1) := by decide +kernel
theorem dX5_init_37 : decode cX5_init 37 = .ok (.bipush 6, 2) := by decide +kernel
theorem dX5_init_39 : decode cX5_init 39 = .ok (.newarray .int, 2) := by decide +kernel
theorem dX5_init_41 : decode cX5_init 41 = .ok (.putfield 24, 3) := by decide +kernel
theorem dX5_init_44 : decode cX5_init 44 = .ok (.aload_n 0, 1) := by decide +kernel
theorem dX5_init_45 : decode cX5_init 45 = .ok (.bipush 120, 2) := by decide +kernel
theorem dX5_init_47 : decode cX5_init 47 = .ok (.newarray .int, 2) := by decide +kernel
theorem dX5_init_49 : decode cX5_init 49 = .ok (.putfield 27, 3) := by decide +kernel
theorem dX5_init_52 : decode cX5_init 52 = .ok (.return_, 1) := by decide +kernel
theorem dX5_startOf_0 : decode cX5_startOf 0 = .ok (.aload_n 0, 1) := by decide +kernel
theorem dX5_startOf_1 : decode cX5_startOf 1 = .ok (.iconst 0, 1) := by decide +kernel
theorem dX5_startOf_2 : decode cX5_startOf 2 = .ok (.putfield 30, 3) := by decide +kernel
theorem dX5_startOf_5 : decode cX5_startOf 5 = .ok (.aload_n 0, 1) := by decide +kernel
theorem dX5_startOf_6 : decode cX5_startOf 6 = .ok (.iconst 0, 1) := by decide +kernel
theorem dX5_startOf_7 : decode cX5_startOf 7 = .ok (.putfield 34, 3) := by decide +kernel
theorem dX5_startOf_10 : decode cX5_startOf 10 = .ok (.aload_n 1, 1) := by decide +kernel
theorem dX5_startOf_11 : decode cX5_startOf 11 = .ok (.getfield 37, 3) := by decide +kernel
theorem dX5_startOf_14 : decode cX5_startOf 14 = .ok (.iconst 0, 1) := by decide +kernel
theorem dX5_startOf_15 : decode cX5_startOf 15 = .ok (.aload_n 0, 1) := by decide +kernel
theorem dX5_startOf_16 : decode cX5_startOf 16 = .ok (.getfield 9, 3) := by decide +kernel
theorem dX5_startOf_19 : decode cX5_startOf 19 = .ok (.iconst 0, 1) := by decide +kernel
theorem dX5_startOf_20 : decode cX5_startOf 20 = .ok (.bipush 64, 2) := by decide +kernel
theorem dX5_startOf_22 : decode cX5_startOf 22 = .ok (.invokestatic 40, 3) := by decide +kernel
theorem dX5_startOf_25 : decode cX5_startOf 25 = .ok (.aload_n 1, 1) := by decide +kernel
theorem dX5_startOf_26 : decode cX5_startOf 26 = .ok (.getfield 46, 3) := by decide +kernel
theorem dX5_startOf_29 : decode cX5_startOf 29 = .ok (.iconst 0, 1) := by decide +kernel
theorem dX5_startOf_30 : decode cX5_startOf 30 = .ok (.aload_n 0, 1) := by decide +kernel
theorem dX5_startOf_31 : decode cX5_startOf 31 = .ok (.getfield 15, 3) := by decide +kernel
theorem dX5_startOf_34 : decode cX5_startOf 34 = .ok (.iconst 0, 1) := by decide +kernel
theorem dX5_startOf_35 : decode cX5_startOf 35 = .ok (.bipush 6, 2) := by decide +kernel
theorem dX5_startOf_37 : decode cX5_startOf 37 = .ok (.invokestatic 40, 3) := by decide +kernel
theorem dX5_startOf_40 : decode cX5_startOf 40 = .ok (.aload_n 1, 1) := by decide +kernel
theorem dX5_startOf_41 : decode cX5_startOf 41 = .ok (.getfield 47, 3) := by decide +kernel
theorem dX5_startOf_44 : decode cX5_startOf 44 = .ok (.iconst 0, 1) := by decide +kernel
theorem dX5_startOf_45 : decode cX5_startOf 45 = .ok (.aload_n 0, 1) := by decide +kernel
theorem dX5_startOf_46 : decode cX5_startOf 46 = .ok (.getfield 18, 3) := by decide +kernel
theorem dX5_startOf_49 : decode cX5_startOf 49 = .ok (.iconst 0, 1) := by decide +kernel
theorem dX5_startOf_50 : decode cX5_startOf 50 = .ok (.bipush 6, 2) := by decide +kernel
theorem dX5_startOf_52 : decode cX5_startOf 52 = .ok (.invokestatic 40, 3) := by decide +kernel
theorem dX5_startOf_55 : decode cX5_startOf 55 = .ok (.aload_n 1, 1) := by decide +kernel
theorem dX5_startOf_56 : decode cX5_startOf 56 = .ok (.getfield 48, 3) := by decide +kernel
theorem dX5_startOf_59 : decode cX5_startOf 59 = .ok (.iconst 0, 1) := by decide +kernel
theorem dX5_startOf_60 : decode cX5_startOf 60 = .ok (.aload_n 0, 1) := by decide +kernel
theorem dX5_startOf_61 : decode cX5_startOf 61 = .ok (.getfield 21, 3) := by decide +kernel
theorem dX5_startOf_64 : decode cX5_startOf 64 = .ok (.iconst 0, 1) := by decide +kernel
theorem dX5_startOf_65 : decode cX5_startOf 65 = .ok (.bipush 6, 2) := by decide +kernel
theorem dX5_startOf_67 : decode cX5_startOf 67 = .ok (.invokestatic 40, 3) := by decide +kernel
theorem dX5_startOf_70 : decode cX5_startOf 70 = .ok (.iconst 0, 1) := by decide +kernel
theorem dX5_startOf_71 : decode cX5_startOf 71 = .ok (.istore_n 2, 1) := by decide +kernel
theorem dX5_startOf_72 : decode cX5_startOf 72 = .ok (.iload_n 2, 1) := by decide +kernel
theorem dX5_startOf_73 : decode cX5_startOf 73 = .ok (.bipush 6, 2) := by decide +kernel
theorem dX5_startOf_75 : decode cX5_startOf 75 = .ok (.if_icmp .ge 16, 3) := by decide +kernel
theorem dX5_startOf_78 : decode cX5_startOf 78 = .ok (.aload_n 0, 1) := by decide +kernel
theorem dX5_startOf_79 : decode cX5_startOf 79 = .ok (.getfield 24, 3) := by decide +kernel
theorem dX5_startOf_82 : decode cX5_startOf 82 = .ok (.iload_n 2, 1) := by decide +kernel
theorem dX5_startOf_83 : decode cX5_startOf 83 = .ok (.iconst 0, 1) := by decide +kernel
theorem dX5_startOf_84 : decode cX5_startOf 84 = .ok (.iastore, 1) := by decide +kernel
theorem dX5_startOf_85 : decode cX5_startOf 85 = .ok (.iinc 2 1, 3) := by decide +kernel
theorem dX5_startOf_88 : decode cX5_startOf 88 = .ok (.goto (-16), 3) := by decide +kernel
theorem dX5_startOf_91 : decode cX5_startOf 91 = .ok (.return_, 1) := by decide +kernel
theorem dX5_copyOf_0 : decode cX5_copyOf 0 = .ok (.aload_n 0, 1) := by decide +kernel
theorem dX5_copyOf_1 : decode cX5_copyOf 1 = .ok (.aload_n 1, 1) := by decide +kernel
theorem dX5_copyOf_2 : decode cX5_copyOf 2 = .ok (.getfield 30, 3) := by decide +kernel
theorem dX5_copyOf_5 : decode cX5_copyOf 5 = .ok (.putfield 30, 3) := by decide +kernel
theorem dX5_copyOf_8 : decode cX5_copyOf 8 = .ok (.aload_n 0, 1) := by decide +kernel
theorem dX5_copyOf_9 : decode cX5_copyOf 9 = .ok (.aload_n 1, 1) := by decide +kernel
theorem dX5_copyOf_10 : decode cX5_copyOf 10 = .ok (.getfield 34, 3) := by decide +kernel
theorem dX5_copyOf_13 : decode cX5_copyOf 13 = .ok (.putfield 34, 3) := by decide +kernel
theorem dX5_copyOf_16 : decode cX5_copyOf 16 = .ok (.aload_n 1, 1) := by decide +kernel
theorem dX5_copyOf_17 : decode cX5_copyOf 17 = .ok (.getfield 9, 3) := by decide +kernel
theorem dX5_copyOf_20 : decode cX5_copyOf 20 = .ok (.iconst 0, 1) := by decide +kernel
theorem dX5_copyOf_21 : decode cX5_copyOf 21 = .ok (.aload_n 0, 1) := by decide +kernel
theorem dX5_copyOf_22 : decode cX5_copyOf 22 = .ok (.getfield 9, 3) := by decide +kernel
theorem dX5_copyOf_25 : decode cX5_copyOf 25 = .ok (.iconst 0, 1) := by decide +kernel
theorem dX5_copyOf_26 : decode cX5_copyOf 26 = .ok (.bipush 64, 2) := by decide +kernel
theorem dX5_copyOf_28 : decode cX5_copyOf 28 = .ok (.invokestatic 40, 3) := by decide +kernel
theorem dX5_copyOf_31 : decode cX5_copyOf 31 = .ok (.aload_n 1, 1) := by decide +kernel
theorem dX5_copyOf_32 : decode cX5_copyOf 32 = .ok (.getfield 15, 3) := by decide +kernel
theorem dX5_copyOf_35 : decode cX5_copyOf 35 = .ok (.iconst 0, 1) := by decide +kernel
theorem dX5_copyOf_36 : decode cX5_copyOf 36 = .ok (.aload_n 0, 1) := by decide +kernel
theorem dX5_copyOf_37 : decode cX5_copyOf 37 = .ok (.getfield 15, 3) := by decide +kernel
theorem dX5_copyOf_40 : decode cX5_copyOf 40 = .ok (.iconst 0, 1) := by decide +kernel
theorem dX5_copyOf_41 : decode cX5_copyOf 41 = .ok (.bipush 6, 2) := by decide +kernel
theorem dX5_copyOf_43 : decode cX5_copyOf 43 = .ok (.invokestatic 40, 3) := by decide +kernel
theorem dX5_copyOf_46 : decode cX5_copyOf 46 = .ok (.aload_n 1, 1) := by decide +kernel
theorem dX5_copyOf_47 : decode cX5_copyOf 47 = .ok (.getfield 18, 3) := by decide +kernel
theorem dX5_copyOf_50 : decode cX5_copyOf 50 = .ok (.iconst 0, 1) := by decide +kernel
theorem dX5_copyOf_51 : decode cX5_copyOf 51 = .ok (.aload_n 0, 1) := by decide +kernel
theorem dX5_copyOf_52 : decode cX5_copyOf 52 = .ok (.getfield 18, 3) := by decide +kernel
theorem dX5_copyOf_55 : decode cX5_copyOf 55 = .ok (.iconst 0, 1) := by decide +kernel
theorem dX5_copyOf_56 : decode cX5_copyOf 56 = .ok (.bipush 6, 2) := by decide +kernel
theorem dX5_copyOf_58 : decode cX5_copyOf 58 = .ok (.invokestatic 40, 3) := by decide +kernel
theorem dX5_copyOf_61 : decode cX5_copyOf 61 = .ok (.aload_n 1, 1) := by decide +kernel
theorem dX5_copyOf_62 : decode cX5_copyOf 62 = .ok (.getfield 21, 3) := by decide +kernel
theorem dX5_copyOf_65 : decode cX5_copyOf 65 = .ok (.iconst 0, 1) := by decide +kernel
theorem dX5_copyOf_66 : decode cX5_copyOf 66 = .ok (.aload_n 0, 1) := by decide +kernel
theorem dX5_copyOf_67 : decode cX5_copyOf 67 = .ok (.getfield 21, 3) := by decide +kernel
theorem dX5_copyOf_70 : decode cX5_copyOf 70 = .ok (.iconst 0, 1) := by decide +kernel
theorem dX5_copyOf_71 : decode cX5_copyOf 71 = .ok (.bipush 6, 2) := by decide +kernel
theorem dX5_copyOf_73 : decode cX5_copyOf 73 = .ok (.invokestatic 40, 3) := by decide +kernel
theorem dX5_copyOf_76 : decode cX5_copyOf 76 = .ok (.aload_n 1, 1) := by decide +kernel
theorem dX5_copyOf_77 : decode cX5_copyOf 77 = .ok (.getfield 24, 3) := by decide +kernel
theorem dX5_copyOf_80 : decode cX5_copyOf 80 = .ok (.iconst 0, 1) := by decide +kernel
theorem dX5_copyOf_81 : decode cX5_copyOf 81 = .ok (.aload_n 0, 1) := by decide +kernel
theorem dX5_copyOf_82 : decode cX5_copyOf 82 = .ok (.getfield 24, 3) := by decide +kernel
theorem dX5_copyOf_85 : decode cX5_copyOf 85 = .ok (.iconst 0, 1) := by decide +kernel
theorem dX5_copyOf_86 : decode cX5_copyOf 86 = .ok (.bipush 6, 2) := by decide +kernel
theorem dX5_copyOf_88 : decode cX5_copyOf 88 = .ok (.invokestatic 40, 3) := by decide +kernel
theorem dX5_copyOf_91 : decode cX5_copyOf 91 = .ok (.aload_n 1, 1) := by decide +kernel
theorem dX5_copyOf_92 : decode cX5_copyOf 92 = .ok (.getfield 27, 3) := by decide +kernel
theorem dX5_copyOf_95 : decode cX5_copyOf 95 = .ok (.iconst 0, 1) := by decide +kernel
theorem dX5_copyOf_96 : decode cX5_copyOf 96 = .ok (.aload_n 0, 1) := by decide +kernel
theorem dX5_copyOf_97 : decode cX5_copyOf 97 = .ok (.getfield 27, 3) := by decide +kernel
theorem dX5_copyOf_100 : decode cX5_copyOf 100 = .ok (.iconst 0, 1) := by decide +kernel
theorem dX5_copyOf_101 : decode cX5_copyOf 101 = .ok (.bipush 120, 2) := by decide +kernel
theorem dX5_copyOf_103 : decode cX5_copyOf 103 = .ok (.invokestatic 40, 3) := by decide +kernel
theorem dX5_copyOf_106 : decode cX5_copyOf 106 = .ok (.return_, 1) := by decide +kernel
theorem dX5_keep_0 : decode cX5_keep 0 = .ok (.aload_n 0, 1) := by decide +kernel
theorem dX5_keep_1 : decode cX5_keep 1 = .ok (.getfield 34, 3) := by decide +kernel
theorem dX5_keep_4 : decode cX5_keep 4 = .ok (.bipush 40, 2) := by decide +kernel
theorem dX5_keep_6 : decode cX5_keep 6 = .ok (.if_icmp .lt 24, 3) := by decide +kernel
theorem dX5_keep_9 : decode cX5_keep 9 = .ok (.aload_n 0, 1) := by decide +kernel
theorem dX5_keep_10 : decode cX5_keep 10 = .ok (.getfield 27, 3) := by decide +kernel
theorem dX5_keep_13 : decode cX5_keep 13 = .ok (.iconst 3, 1) := by decide +kernel
theorem dX5_keep_14 : decode cX5_keep 14 = .ok (.aload_n 0, 1) := by decide +kernel
theorem dX5_keep_15 : decode cX5_keep 15 = .ok (.getfield 27, 3) := by decide +kernel
theorem dX5_keep_18 : decode cX5_keep 18 = .ok (.iconst 0, 1) := by decide +kernel
theorem dX5_keep_19 : decode cX5_keep 19 = .ok (.bipush 117, 2) := by decide +kernel
theorem dX5_keep_21 : decode cX5_keep 21 = .ok (.invokestatic 40, 3) := by decide +kernel
theorem dX5_keep_24 : decode cX5_keep 24 = .ok (.aload_n 0, 1) := by decide +kernel
theorem dX5_keep_25 : decode cX5_keep 25 = .ok (.bipush 39, 2) := by decide +kernel
theorem dX5_keep_27 : decode cX5_keep 27 = .ok (.putfield 34, 3) := by decide +kernel
theorem dX5_keep_30 : decode cX5_keep 30 = .ok (.aload_n 0, 1) := by decide +kernel
theorem dX5_keep_31 : decode cX5_keep 31 = .ok (.getfield 34, 3) := by decide +kernel
theorem dX5_keep_34 : decode cX5_keep 34 = .ok (.iconst 3, 1) := by decide +kernel
theorem dX5_keep_35 : decode cX5_keep 35 = .ok (.imul, 1) := by decide +kernel
theorem dX5_keep_36 : decode cX5_keep 36 = .ok (.istore_n 3, 1) := by decide +kernel
theorem dX5_keep_37 : decode cX5_keep 37 = .ok (.aload_n 0, 1) := by decide +kernel
theorem dX5_keep_38 : decode cX5_keep 38 = .ok (.getfield 27, 3) := by decide +kernel
theorem dX5_keep_41 : decode cX5_keep 41 = .ok (.iload_n 3, 1) := by decide +kernel
theorem dX5_keep_42 : decode cX5_keep 42 = .ok (.aload_n 0, 1) := by decide +kernel
theorem dX5_keep_43 : decode cX5_keep 43 = .ok (.getfield 30, 3) := by decide +kernel
theorem dX5_keep_46 : decode cX5_keep 46 = .ok (.iastore, 1) := by decide +kernel
theorem dX5_keep_47 : decode cX5_keep 47 = .ok (.aload_n 0, 1) := by decide +kernel
theorem dX5_keep_48 : decode cX5_keep 48 = .ok (.getfield 27, 3) := by decide +kernel
theorem dX5_keep_51 : decode cX5_keep 51 = .ok (.iload_n 3, 1) := by decide +kernel
theorem dX5_keep_52 : decode cX5_keep 52 = .ok (.iconst 1, 1) := by decide +kernel
theorem dX5_keep_53 : decode cX5_keep 53 = .ok (.iadd, 1) := by decide +kernel
theorem dX5_keep_54 : decode cX5_keep 54 = .ok (.iload_n 1, 1) := by decide +kernel
theorem dX5_keep_55 : decode cX5_keep 55 = .ok (.iastore, 1) := by decide +kernel
theorem dX5_keep_56 : decode cX5_keep 56 = .ok (.aload_n 0, 1) := by decide +kernel
theorem dX5_keep_57 : decode cX5_keep 57 = .ok (.getfield 27, 3) := by decide +kernel
theorem dX5_keep_60 : decode cX5_keep 60 = .ok (.iload_n 3, 1) := by decide +kernel
theorem dX5_keep_61 : decode cX5_keep 61 = .ok (.iconst 2, 1) := by decide +kernel
theorem dX5_keep_62 : decode cX5_keep 62 = .ok (.iadd, 1) := by decide +kernel
theorem dX5_keep_63 : decode cX5_keep 63 = .ok (.iload_n 2, 1) := by decide +kernel
theorem dX5_keep_64 : decode cX5_keep 64 = .ok (.iastore, 1) := by decide +kernel
theorem dX5_keep_65 : decode cX5_keep 65 = .ok (.aload_n 0, 1) := by decide +kernel
theorem dX5_keep_66 : decode cX5_keep 66 = .ok (.dup, 1) := by decide +kernel
theorem dX5_keep_67 : decode cX5_keep 67 = .ok (.getfield 34, 3) := by decide +kernel
theorem dX5_keep_70 : decode cX5_keep 70 = .ok (.iconst 1, 1) := by decide +kernel
theorem dX5_keep_71 : decode cX5_keep 71 = .ok (.iadd, 1) := by decide +kernel
theorem dX5_keep_72 : decode cX5_keep 72 = .ok (.putfield 34, 3) := by decide +kernel
theorem dX5_keep_75 : decode cX5_keep 75 = .ok (.return_, 1) := by decide +kernel
theorem dX6_init_0 : decode cX6_init 0 = .ok (.aload_n 0, 1) := by decide +kernel
theorem dX6_init_1 : decode cX6_init 1 = .ok (.invokespecial 3, 3) := by decide +kernel
theorem dX6_init_4 : decode cX6_init 4 = .ok (.aload_n 0, 1) := by decide +kernel
theorem dX6_init_5 : decode cX6_init 5 = .ok (.sipush 1600, 3) := by decide +kernel
theorem dX6_init_8 : decode cX6_init 8 = .ok (.newarray .int, 2) := by decide +kernel
theorem dX6_init_10 : decode cX6_init 10 = .ok (.putfield 9, 3) := by decide +kernel
theorem dX6_init_13 : decode cX6_init 13 = .ok (.aload_n 0, 1) := by decide +kernel
theorem dX6_init_14 : decode cX6_init 14 = .ok (.bipush 64, 2) := by decide +kernel
theorem dX6_init_16 : decode cX6_init 16 = .ok (.newarray .int, 2) := by decide +kernel
theorem dX6_init_18 : decode cX6_init 18 = .ok (.putfield 15, 3) := by decide +kernel
theorem dX6_init_21 : decode cX6_init 21 = .ok (.return_, 1) := by decide +kernel
theorem dX6_clear_0 : decode cX6_clear 0 = .ok (.aload_n 0, 1) := by decide +kernel
theorem dX6_clear_1 : decode cX6_clear 1 = .ok (.iconst 0, 1) := by decide +kernel
theorem dX6_clear_2 : decode cX6_clear 2 = .ok (.putfield 18, 3) := by decide +kernel
theorem dX6_clear_5 : decode cX6_clear 5 = .ok (.return_, 1) := by decide +kernel
theorem dX6_isTold_0 : decode cX6_isTold 0 = .ok (.aload_n 0, 1) := by decide +kernel
theorem dX6_isTold_1 : decode cX6_isTold 1 = .ok (.getfield 18, 3) := by decide +kernel
theorem dX6_isTold_4 : decode cX6_isTold 4 = .ok (.ifCond .le 7, 3) := by decide +kernel
theorem dX6_isTold_7 : decode cX6_isTold 7 = .ok (.iconst 1, 1) := by decide +kernel
theorem dX6_isTold_8 : decode cX6_isTold 8 = .ok (.goto 4, 3) := by decide +kernel
theorem dX6_isTold_11 : decode cX6_isTold 11 = .ok (.iconst 0, 1) := by decide +kernel
theorem dX6_isTold_12 : decode cX6_isTold 12 = .ok (.ireturn, 1) := by decide +kernel
theorem dX6_copyOf_0 : decode cX6_copyOf 0 = .ok (.aload_n 0, 1) := by decide +kernel
theorem dX6_copyOf_1 : decode cX6_copyOf 1 = .ok (.aload_n 1, 1) := by decide +kernel
theorem dX6_copyOf_2 : decode cX6_copyOf 2 = .ok (.getfield 18, 3) := by decide +kernel
theorem dX6_copyOf_5 : decode cX6_copyOf 5 = .ok (.putfield 18, 3) := by decide +kernel
theorem dX6_copyOf_8 : decode cX6_copyOf 8 = .ok (.aload_n 1, 1) := by decide +kernel
theorem dX6_copyOf_9 : decode cX6_copyOf 9 = .ok (.getfield 9, 3) := by decide +kernel
theorem dX6_copyOf_12 : decode cX6_copyOf 12 = .ok (.iconst 0, 1) := by decide +kernel
theorem dX6_copyOf_13 : decode cX6_copyOf 13 = .ok (.aload_n 0, 1) := by decide +kernel
theorem dX6_copyOf_14 : decode cX6_copyOf 14 = .ok (.getfield 9, 3) := by decide +kernel
theorem dX6_copyOf_17 : decode cX6_copyOf 17 = .ok (.iconst 0, 1) := by decide +kernel
theorem dX6_copyOf_18 : decode cX6_copyOf 18 = .ok (.aload_n 0, 1) := by decide +kernel
theorem dX6_copyOf_19 : decode cX6_copyOf 19 = .ok (.getfield 18, 3) := by decide +kernel
theorem dX6_copyOf_22 : decode cX6_copyOf 22 = .ok (.invokestatic 22, 3) := by decide +kernel
theorem dX6_copyOf_25 : decode cX6_copyOf 25 = .ok (.return_, 1) := by decide +kernel
theorem dX6_add_0 : decode cX6_add 0 = .ok (.aload_n 0, 1) := by decide +kernel
theorem dX6_add_1 : decode cX6_add 1 = .ok (.getfield 18, 3) := by decide +kernel
theorem dX6_add_4 : decode cX6_add 4 = .ok (.sipush 1600, 3) := by decide +kernel
theorem dX6_add_7 : decode cX6_add 7 = .ok (.if_icmp .ge 27, 3) := by decide +kernel
theorem dX6_add_10 : decode cX6_add 10 = .ok (.aload_n 0, 1) := by decide +kernel
theorem dX6_add_11 : decode cX6_add 11 = .ok (.getfield 9, 3) := by decide +kernel
theorem dX6_add_14 : decode cX6_add 14 = .ok (.aload_n 0, 1) := by decide +kernel
theorem dX6_add_15 : decode cX6_add 15 = .ok (.getfield 18, 3) := by decide +kernel
theorem dX6_add_18 : decode cX6_add 18 = .ok (.iload_n 2, 1) := by decide +kernel
theorem dX6_add_19 : decode cX6_add 19 = .ok (.iconst 4, 1) := by decide +kernel
theorem dX6_add_20 : decode cX6_add 20 = .ok (.ishl, 1) := by decide +kernel
theorem dX6_add_21 : decode cX6_add 21 = .ok (.iload_n 1, 1) := by decide +kernel
theorem dX6_add_22 : decode cX6_add 22 = .ok (.ior, 1) := by decide +kernel
theorem dX6_add_23 : decode cX6_add 23 = .ok (.iastore, 1) := by decide +kernel
theorem dX6_add_24 : decode cX6_add 24 = .ok (.aload_n 0, 1) := by decide +kernel
theorem dX6_add_25 : decode cX6_add 25 = .ok (.dup, 1) := by decide +kernel
theorem dX6_add_26 : decode cX6_add 26 = .ok (.getfield 18, 3) := by decide +kernel
theorem dX6_add_29 : decode cX6_add 29 = .ok (.iconst 1, 1) := by decide +kernel
theorem dX6_add_30 : decode cX6_add 30 = .ok (.iadd, 1) := by decide +kernel
theorem dX6_add_31 : decode cX6_add 31 = .ok (.putfield 18, 3) := by decide +kernel
theorem dX6_add_34 : decode cX6_add 34 = .ok (.return_, 1) := by decide +kernel
theorem dX6_value_0 : decode cX6_value 0 = .ok (.iconst 0, 1) := by decide +kernel
theorem dX6_value_1 : decode cX6_value 1 = .ok (.istore_n 2, 1) := by decide +kernel
theorem dX6_value_2 : decode cX6_value 2 = .ok (.iconst 0, 1) := by decide +kernel
theorem dX6_value_3 : decode cX6_value 3 = .ok (.istore_n 3, 1) := by decide +kernel
theorem dX6_value_4 : decode cX6_value 4 = .ok (.iload_n 3, 1) := by decide +kernel
theorem dX6_value_5 : decode cX6_value 5 = .ok (.aload_n 0, 1) := by decide +kernel
theorem dX6_value_6 : decode cX6_value 6 = .ok (.getfield 18, 3) := by decide +kernel
theorem dX6_value_9 : decode cX6_value 9 = .ok (.if_icmp .ge 194, 3) := by decide +kernel
theorem dX6_value_12 : decode cX6_value 12 = .ok (.aload_n 0, 1) := by decide +kernel
theorem dX6_value_13 : decode cX6_value 13 = .ok (.getfield 9, 3) := by decide +kernel
theorem dX6_value_16 : decode cX6_value 16 = .ok (.iload_n 3, 1) := by decide +kernel
theorem dX6_value_17 : decode cX6_value 17 = .ok (.iaload, 1) := by decide +kernel
theorem dX6_value_18 : decode cX6_value 18 = .ok (.bipush 15, 2) := by decide +kernel
theorem dX6_value_20 : decode cX6_value 20 = .ok (.iand, 1) := by decide +kernel
theorem dX6_value_21 : decode cX6_value 21 = .ok (.istore 4, 2) := by decide +kernel
theorem dX6_value_23 : decode cX6_value 23 = .ok (.aload_n 0, 1) := by decide +kernel
theorem dX6_value_24 : decode cX6_value 24 = .ok (.getfield 9, 3) := by decide +kernel
theorem dX6_value_27 : decode cX6_value 27 = .ok (.iload_n 3, 1) := by decide +kernel
theorem dX6_value_28 : decode cX6_value 28 = .ok (.iaload, 1) := by decide +kernel
theorem dX6_value_29 : decode cX6_value 29 = .ok (.iconst 4, 1) := by decide +kernel
theorem dX6_value_30 : decode cX6_value 30 = .ok (.ishr, 1) := by decide +kernel
theorem dX6_value_31 : decode cX6_value 31 = .ok (.istore 5, 2) := by decide +kernel
theorem dX6_value_33 : decode cX6_value 33 = .ok (.iload 4, 2) := by decide +kernel
theorem dX6_value_35 : decode cX6_value 35 = .ok (.ifCond .eq 9, 3) := by decide +kernel
theorem dX6_value_38 : decode cX6_value 38 = .ok (.iload 4, 2) := by decide +kernel
theorem dX6_value_40 : decode cX6_value 40 = .ok (.iconst 1, 1) := by decide +kernel
theorem dX6_value_41 : decode cX6_value 41 = .ok (.if_icmp .ne 35, 3) := by decide +kernel
theorem dX6_value_44 : decode cX6_value 44 = .ok (.iload_n 2, 1) := by decide +kernel
theorem dX6_value_45 : decode cX6_value 45 = .ok (.bipush 64, 2) := by decide +kernel
theorem dX6_value_47 : decode cX6_value 47 = .ok (.if_icmp .ge 150, 3) := by decide +kernel
theorem dX6_value_50 : decode cX6_value 50 = .ok (.aload_n 0, 1) := by decide +kernel
theorem dX6_value_51 : decode cX6_value 51 = .ok (.getfield 15, 3) := by decide +kernel
theorem dX6_value_54 : decode cX6_value 54 = .ok (.iload_n 2, 1) := by decide +kernel
theorem dX6_value_55 : decode cX6_value 55 = .ok (.iload 4, 2) := by decide +kernel
theorem dX6_value_57 : decode cX6_value 57 = .ok (.ifCond .ne 8, 3) := by decide +kernel
theorem dX6_value_60 : decode cX6_value 60 = .ok (.iload 5, 2) := by decide +kernel
theorem dX6_value_62 : decode cX6_value 62 = .ok (.goto 7, 3) := by decide +kernel
theorem dX6_value_65 : decode cX6_value 65 = .ok (.aload_n 1, 1) := by decide +kernel
theorem dX6_value_66 : decode cX6_value 66 = .ok (.iload 5, 2) := by decide +kernel
theorem dX6_value_68 : decode cX6_value 68 = .ok (.iaload, 1) := by decide +kernel
theorem dX6_value_69 : decode cX6_value 69 = .ok (.iastore, 1) := by decide +kernel
theorem dX6_value_70 : decode cX6_value 70 = .ok (.iinc 2 1, 3) := by decide +kernel
theorem dX6_value_73 : decode cX6_value 73 = .ok (.goto 124, 3) := by decide +kernel
theorem dX6_value_76 : decode cX6_value 76 = .ok (.iload 4, 2) := by decide +kernel
theorem dX6_value_78 : decode cX6_value 78 = .ok (.iconst 2, 1) := by decide +kernel
theorem dX6_value_79 : decode cX6_value 79 = .ok (.if_icmp .ne 28, 3) := by decide +kernel
theorem dX6_value_82 : decode cX6_value 82 = .ok (.iload_n 2, 1) := by decide +kernel
theorem dX6_value_83 : decode cX6_value 83 = .ok (.ifCond .le 114, 3) := by decide +kernel
theorem dX6_value_86 : decode cX6_value 86 = .ok (.aload_n 0, 1) := by decide +kernel
theorem dX6_value_87 : decode cX6_value 87 = .ok (.getfield 15, 3) := by decide +kernel
theorem dX6_value_90 : decode cX6_value 90 = .ok (.iload_n 2, 1) := by decide +kernel
theorem dX6_value_91 : decode cX6_value 91 = .ok (.iconst 1, 1) := by decide +kernel
theorem dX6_value_92 : decode cX6_value 92 = .ok (.isub, 1) := by decide +kernel
theorem dX6_value_93 : decode cX6_value 93 = .ok (.iconst 1, 1) := by decide +kernel
theorem dX6_value_94 : decode cX6_value 94 = .ok (.aload_n 0, 1) := by decide +kernel
theorem dX6_value_95 : decode cX6_value 95 = .ok (.getfield 15, 3) := by decide +kernel
theorem dX6_value_98 : decode cX6_value 98 = .ok (.iload_n 2, 1) := by decide +kernel
theorem dX6_value_99 : decode cX6_value 99 = .ok (.iconst 1, 1) := by decide +kernel
theorem dX6_value_100 : decode cX6_value 100 = .ok (.isub, 1) := by decide +kernel
theorem dX6_value_101 : decode cX6_value 101 = .ok (.iaload, 1) := by decide +kernel
theorem dX6_value_102 : decode cX6_value 102 = .ok (.isub, 1) := by decide +kernel
theorem dX6_value_103 : decode cX6_value 103 = .ok (.iastore, 1) := by decide +kernel
theorem dX6_value_104 : decode cX6_value 104 = .ok (.goto 93, 3) := by decide +kernel
theorem dX6_value_107 : decode cX6_value 107 = .ok (.iload 4, 2) := by decide +kernel
theorem dX6_value_109 : decode cX6_value 109 = .ok (.iconst 3, 1) := by decide +kernel
theorem dX6_value_110 : decode cX6_value 110 = .ok (.if_icmp .ne 50, 3) := by decide +kernel
theorem dX6_value_113 : decode cX6_value 113 = .ok (.iload_n 2, 1) := by decide +kernel
theorem dX6_value_114 : decode cX6_value 114 = .ok (.iconst 2, 1) := by decide +kernel
theorem dX6_value_115 : decode cX6_value 115 = .ok (.if_icmp .le 82, 3) := by decide +kernel
theorem dX6_value_118 : decode cX6_value 118 = .ok (.iinc 2 (-2), 3) := by decide +kernel
theorem dX6_value_121 : decode cX6_value 121 = .ok (.aload_n 0, 1) := by decide +kernel
theorem dX6_value_122 : decode cX6_value 122 = .ok (.getfield 15, 3) := by decide +kernel
theorem dX6_value_125 : decode cX6_value 125 = .ok (.iload_n 2, 1) := by decide +kernel
theorem dX6_value_126 : decode cX6_value 126 = .ok (.iconst 1, 1) := by decide +kernel
theorem dX6_value_127 : decode cX6_value 127 = .ok (.isub, 1) := by decide +kernel
theorem dX6_value_128 : decode cX6_value 128 = .ok (.aload_n 0, 1) := by decide +kernel
theorem dX6_value_129 : decode cX6_value 129 = .ok (.getfield 15, 3) := by decide +kernel
theorem dX6_value_132 : decode cX6_value 132 = .ok (.iload_n 2, 1) := by decide +kernel
theorem dX6_value_133 : decode cX6_value 133 = .ok (.iconst 1, 1) := by decide +kernel
theorem dX6_value_134 : decode cX6_value 134 = .ok (.isub, 1) := by decide +kernel
theorem dX6_value_135 : decode cX6_value 135 = .ok (.iaload, 1) := by decide +kernel
theorem dX6_value_136 : decode cX6_value 136 = .ok (.ifCond .eq 12, 3) := by decide +kernel
theorem dX6_value_139 : decode cX6_value 139 = .ok (.aload_n 0, 1) := by decide +kernel
theorem dX6_value_140 : decode cX6_value 140 = .ok (.getfield 15, 3) := by decide +kernel
theorem dX6_value_143 : decode cX6_value 143 = .ok (.iload_n 2, 1) := by decide +kernel
theorem dX6_value_144 : decode cX6_value 144 = .ok (.iaload, 1) := by decide +kernel
theorem dX6_value_145 : decode cX6_value 145 = .ok (.goto 11, 3) := by decide +kernel
theorem dX6_value_148 : decode cX6_value 148 = .ok (.aload_n 0, 1) := by decide +kernel
theorem dX6_value_149 : decode cX6_value 149 = .ok (.getfield 15, 3) := by decide +kernel
theorem dX6_value_152 : decode cX6_value 152 = .ok (.iload_n 2, 1) := by decide +kernel
theorem dX6_value_153 : decode cX6_value 153 = .ok (.iconst 1, 1) := by decide +kernel
theorem dX6_value_154 : decode cX6_value 154 = .ok (.iadd, 1) := by decide +kernel
theorem dX6_value_155 : decode cX6_value 155 = .ok (.iaload, 1) := by decide +kernel
theorem dX6_value_156 : decode cX6_value 156 = .ok (.iastore, 1) := by decide +kernel
theorem dX6_value_157 : decode cX6_value 157 = .ok (.goto 40, 3) := by decide +kernel
theorem dX6_value_160 : decode cX6_value 160 = .ok (.iload_n 2, 1) := by decide +kernel
theorem dX6_value_161 : decode cX6_value 161 = .ok (.iconst 1, 1) := by decide +kernel
theorem dX6_value_162 : decode cX6_value 162 = .ok (.if_icmp .le 35, 3) := by decide +kernel
theorem dX6_value_165 : decode cX6_value 165 = .ok (.iinc 2 (-1), 3) := by decide +kernel
theorem dX6_value_168 : decode cX6_value 168 = .ok (.aload_n 0, 1) := by decide +kernel
theorem dX6_value_169 : decode cX6_value 169 = .ok (.getfield 15, 3) := by decide +kernel
theorem dX6_value_172 : decode cX6_value 172 = .ok (.iload_n 2, 1) := by decide +kernel
theorem dX6_value_173 : decode cX6_value 173 = .ok (.iconst 1, 1) := by decide +kernel
theorem dX6_value_174 : decode cX6_value 174 = .ok (.isub, 1) := by decide +kernel
theorem dX6_value_175 : decode cX6_value 175 = .ok (.iload 4, 2) := by decide +kernel
theorem dX6_value_177 : decode cX6_value 177 = .ok (.aload_n 0, 1) := by decide +kernel
theorem dX6_value_178 : decode cX6_value 178 = .ok (.getfield 15, 3) := by decide +kernel
theorem dX6_value_181 : decode cX6_value 181 = .ok (.iload_n 2, 1) := by decide +kernel
theorem dX6_value_182 : decode cX6_value 182 = .ok (.iconst 1, 1) := by decide +kernel
theorem dX6_value_183 : decode cX6_value 183 = .ok (.isub, 1) := by decide +kernel
theorem dX6_value_184 : decode cX6_value 184 = .ok (.iaload, 1) := by decide +kernel
theorem dX6_value_185 : decode cX6_value 185 = .ok (.i2l, 1) := by decide +kernel
theorem dX6_value_186 : decode cX6_value 186 = .ok (.aload_n 0, 1) := by decide +kernel
theorem dX6_value_187 : decode cX6_value 187 = .ok (.getfield 15, 3) := by decide +kernel
theorem dX6_value_190 : decode cX6_value 190 = .ok (.iload_n 2, 1) := by decide +kernel
theorem dX6_value_191 : decode cX6_value 191 = .ok (.iaload, 1) := by decide +kernel
theorem dX6_value_192 : decode cX6_value 192 = .ok (.i2l, 1) := by decide +kernel
theorem dX6_value_193 : decode cX6_value 193 = .ok (.invokestatic 28, 3) := by decide +kernel
theorem dX6_value_196 : decode cX6_value 196 = .ok (.iastore, 1) := by decide +kernel
theorem dX6_value_197 : decode cX6_value 197 = .ok (.iinc 3 1, 3) := by decide +kernel
theorem dX6_value_200 : decode cX6_value 200 = .ok (.goto (-196), 3) := by decide +kernel
theorem dX6_value_203 : decode cX6_value 203 = .ok (.iload_n 2, 1) := by decide +kernel
theorem dX6_value_204 : decode cX6_value 204 = .ok (.ifCond .le 14, 3) := by decide +kernel
theorem dX6_value_207 : decode cX6_value 207 = .ok (.aload_n 0, 1) := by decide +kernel
theorem dX6_value_208 : decode cX6_value 208 = .ok (.getfield 15, 3) := by decide +kernel
theorem dX6_value_211 : decode cX6_value 211 = .ok (.iload_n 2, 1) := by decide +kernel
theorem dX6_value_212 : decode cX6_value 212 = .ok (.iconst 1, 1) := by decide +kernel
theorem dX6_value_213 : decode cX6_value 213 = .ok (.isub, 1) := by decide +kernel
theorem dX6_value_214 : decode cX6_value 214 = .ok (.iaload, 1) := by decide +kernel
theorem dX6_value_215 : decode cX6_value 215 = .ok (.goto 4, 3) := by decide +kernel
theorem dX6_value_218 : decode cX6_value 218 = .ok (.iconst 0, 1) := by decide +kernel
theorem dX6_value_219 : decode cX6_value 219 = .ok (.ireturn, 1) := by decide +kernel
theorem dX6_joined_0 : decode cX6_joined 0 = .ok (.iload_n 0, 1) := by decide +kernel
theorem dX6_joined_1 : decode cX6_joined 1 = .ok (.tableswitch 211 4 15 #[63, 71, 79, 87, 107, 127, 137, 147, 163, 179, 195, 203], 63) := by decide +kernel
theorem dX6_joined_64 : decode cX6_joined 64 = .ok (.lload_n 1, 1) := by decide +kernel
theorem dX6_joined_65 : decode cX6_joined 65 = .ok (.lload_n 3, 1) := by decide +kernel
theorem dX6_joined_66 : decode cX6_joined 66 = .ok (.ladd, 1) := by decide +kernel
theorem dX6_joined_67 : decode cX6_joined 67 = .ok (.lstore 5, 2) := by decide +kernel
theorem dX6_joined_69 : decode cX6_joined 69 = .ok (.goto 146, 3) := by decide +kernel
theorem dX6_joined_72 : decode cX6_joined 72 = .ok (.lload_n 1, 1) := by decide +kernel
theorem dX6_joined_73 : decode cX6_joined 73 = .ok (.lload_n 3, 1) := by decide +kernel
theorem dX6_joined_74 : decode cX6_joined 74 = .ok (.lsub, 1) := by decide +kernel
theorem dX6_joined_75 : decode cX6_joined 75 = .ok (.lstore 5, 2) := by decide +kernel
theorem dX6_joined_77 : decode cX6_joined 77 = .ok (.goto 138, 3) := by decide +kernel
theorem dX6_joined_80 : decode cX6_joined 80 = .ok (.lload_n 1, 1) := by decide +kernel
theorem dX6_joined_81 : decode cX6_joined 81 = .ok (.lload_n 3, 1) := by decide +kernel
theorem dX6_joined_82 : decode cX6_joined 82 = .ok (.lmul, 1) := by decide +kernel
theorem dX6_joined_83 : decode cX6_joined 83 = .ok (.lstore 5, 2) := by decide +kernel
theorem dX6_joined_85 : decode cX6_joined 85 = .ok (.goto 130, 3) := by decide +kernel
theorem dX6_joined_88 : decode cX6_joined 88 = .ok (.lload_n 3, 1) := by decide +kernel
theorem dX6_joined_89 : decode cX6_joined 89 = .ok (.lconst 0, 1) := by decide +kernel
theorem dX6_joined_90 : decode cX6_joined 90 = .ok (.lcmp, 1) := by decide +kernel
theorem dX6_joined_91 : decode cX6_joined 91 = .ok (.ifCond .ne 7, 3) := by decide +kernel
theorem dX6_joined_94 : decode cX6_joined 94 = .ok (.lconst 0, 1) := by decide +kernel
theorem dX6_joined_95 : decode cX6_joined 95 = .ok (.goto 8, 3) := by decide +kernel
theorem dX6_joined_98 : decode cX6_joined 98 = .ok (.lload_n 1, 1) := by decide +kernel
theorem dX6_joined_99 : decode cX6_joined 99 = .ok (.lload_n 3, 1) := by decide +kernel
theorem dX6_joined_100 : decode cX6_joined 100 = .ok (.invokestatic 32, 3) := by decide +kernel
theorem dX6_joined_103 : decode cX6_joined 103 = .ok (.lstore 5, 2) := by decide +kernel
theorem dX6_joined_105 : decode cX6_joined 105 = .ok (.goto 110, 3) := by decide +kernel
theorem dX6_joined_108 : decode cX6_joined 108 = .ok (.lload_n 3, 1) := by decide +kernel
theorem dX6_joined_109 : decode cX6_joined 109 = .ok (.lconst 0, 1) := by decide +kernel
theorem dX6_joined_110 : decode cX6_joined 110 = .ok (.lcmp, 1) := by decide +kernel
theorem dX6_joined_111 : decode cX6_joined 111 = .ok (.ifCond .ne 7, 3) := by decide +kernel
theorem dX6_joined_114 : decode cX6_joined 114 = .ok (.lconst 0, 1) := by decide +kernel
theorem dX6_joined_115 : decode cX6_joined 115 = .ok (.goto 8, 3) := by decide +kernel
theorem dX6_joined_118 : decode cX6_joined 118 = .ok (.lload_n 1, 1) := by decide +kernel
theorem dX6_joined_119 : decode cX6_joined 119 = .ok (.lload_n 3, 1) := by decide +kernel
theorem dX6_joined_120 : decode cX6_joined 120 = .ok (.invokestatic 38, 3) := by decide +kernel
theorem dX6_joined_123 : decode cX6_joined 123 = .ok (.lstore 5, 2) := by decide +kernel
theorem dX6_joined_125 : decode cX6_joined 125 = .ok (.goto 90, 3) := by decide +kernel
theorem dX6_joined_128 : decode cX6_joined 128 = .ok (.lload_n 1, 1) := by decide +kernel
theorem dX6_joined_129 : decode cX6_joined 129 = .ok (.lload_n 3, 1) := by decide +kernel
theorem dX6_joined_130 : decode cX6_joined 130 = .ok (.invokestatic 41, 3) := by decide +kernel
theorem dX6_joined_133 : decode cX6_joined 133 = .ok (.lstore 5, 2) := by decide +kernel
theorem dX6_joined_135 : decode cX6_joined 135 = .ok (.goto 80, 3) := by decide +kernel
theorem dX6_joined_138 : decode cX6_joined 138 = .ok (.lload_n 1, 1) := by decide +kernel
theorem dX6_joined_139 : decode cX6_joined 139 = .ok (.lload_n 3, 1) := by decide +kernel
theorem dX6_joined_140 : decode cX6_joined 140 = .ok (.invokestatic 44, 3) := by decide +kernel
theorem dX6_joined_143 : decode cX6_joined 143 = .ok (.lstore 5, 2) := by decide +kernel
theorem dX6_joined_145 : decode cX6_joined 145 = .ok (.goto 70, 3) := by decide +kernel
theorem dX6_joined_148 : decode cX6_joined 148 = .ok (.lload_n 1, 1) := by decide +kernel
theorem dX6_joined_149 : decode cX6_joined 149 = .ok (.lload_n 3, 1) := by decide +kernel
theorem dX6_joined_150 : decode cX6_joined 150 = .ok (.lcmp, 1) := by decide +kernel
theorem dX6_joined_151 : decode cX6_joined 151 = .ok (.ifCond .ge 7, 3) := by decide +kernel
theorem dX6_joined_154 : decode cX6_joined 154 = .ok (.lconst 1, 1) := by decide +kernel
theorem dX6_joined_155 : decode cX6_joined 155 = .ok (.goto 4, 3) := by decide +kernel
theorem dX6_joined_158 : decode cX6_joined 158 = .ok (.lconst 0, 1) := by decide +kernel
theorem dX6_joined_159 : decode cX6_joined 159 = .ok (.lstore 5, 2) := by decide +kernel
theorem dX6_joined_161 : decode cX6_joined 161 = .ok (.goto 54, 3) := by decide +kernel
theorem dX6_joined_164 : decode cX6_joined 164 = .ok (.lload_n 1, 1) := by decide +kernel
theorem dX6_joined_165 : decode cX6_joined 165 = .ok (.lload_n 3, 1) := by decide +kernel
theorem dX6_joined_166 : decode cX6_joined 166 = .ok (.lcmp, 1) := by decide +kernel
theorem dX6_joined_167 : decode cX6_joined 167 = .ok (.ifCond .le 7, 3) := by decide +kernel
theorem dX6_joined_170 : decode cX6_joined 170 = .ok (.lconst 1, 1) := by decide +kernel
theorem dX6_joined_171 : decode cX6_joined 171 = .ok (.goto 4, 3) := by decide +kernel
theorem dX6_joined_174 : decode cX6_joined 174 = .ok (.lconst 0, 1) := by decide +kernel
theorem dX6_joined_175 : decode cX6_joined 175 = .ok (.lstore 5, 2) := by decide +kernel
theorem dX6_joined_177 : decode cX6_joined 177 = .ok (.goto 38, 3) := by decide +kernel
theorem dX6_joined_180 : decode cX6_joined 180 = .ok (.lload_n 1, 1) := by decide +kernel
theorem dX6_joined_181 : decode cX6_joined 181 = .ok (.lload_n 3, 1) := by decide +kernel
theorem dX6_joined_182 : decode cX6_joined 182 = .ok (.lcmp, 1) := by decide +kernel
theorem dX6_joined_183 : decode cX6_joined 183 = .ok (.ifCond .ne 7, 3) := by decide +kernel
theorem dX6_joined_186 : decode cX6_joined 186 = .ok (.lconst 1, 1) := by decide +kernel
theorem dX6_joined_187 : decode cX6_joined 187 = .ok (.goto 4, 3) := by decide +kernel
theorem dX6_joined_190 : decode cX6_joined 190 = .ok (.lconst 0, 1) := by decide +kernel
theorem dX6_joined_191 : decode cX6_joined 191 = .ok (.lstore 5, 2) := by decide +kernel
theorem dX6_joined_193 : decode cX6_joined 193 = .ok (.goto 22, 3) := by decide +kernel
theorem dX6_joined_196 : decode cX6_joined 196 = .ok (.lload_n 1, 1) := by decide +kernel
theorem dX6_joined_197 : decode cX6_joined 197 = .ok (.lload_n 3, 1) := by decide +kernel
theorem dX6_joined_198 : decode cX6_joined 198 = .ok (.land, 1) := by decide +kernel
theorem dX6_joined_199 : decode cX6_joined 199 = .ok (.lstore 5, 2) := by decide +kernel
theorem dX6_joined_201 : decode cX6_joined 201 = .ok (.goto 14, 3) := by decide +kernel
theorem dX6_joined_204 : decode cX6_joined 204 = .ok (.lload_n 1, 1) := by decide +kernel
theorem dX6_joined_205 : decode cX6_joined 205 = .ok (.lload_n 3, 1) := by decide +kernel
theorem dX6_joined_206 : decode cX6_joined 206 = .ok (.lor, 1) := by decide +kernel
theorem dX6_joined_207 : decode cX6_joined 207 = .ok (.lstore 5, 2) := by decide +kernel
theorem dX6_joined_209 : decode cX6_joined 209 = .ok (.goto 6, 3) := by decide +kernel
theorem dX6_joined_212 : decode cX6_joined 212 = .ok (.lconst 0, 1) := by decide +kernel
theorem dX6_joined_213 : decode cX6_joined 213 = .ok (.lstore 5, 2) := by decide +kernel
theorem dX6_joined_215 : decode cX6_joined 215 = .ok (.ldc2_w 47, 3) := by decide +kernel
theorem dX6_joined_218 : decode cX6_joined 218 = .ok (.ldc2_w 49, 3) := by decide +kernel
theorem dX6_joined_221 : decode cX6_joined 221 = .ok (.lload 5, 2) := by decide +kernel
theorem dX6_joined_223 : decode cX6_joined 223 = .ok (.invokestatic 41, 3) := by decide +kernel
theorem dX6_joined_226 : decode cX6_joined 226 = .ok (.invokestatic 44, 3) := by decide +kernel
theorem dX6_joined_229 : decode cX6_joined 229 = .ok (.l2i, 1) := by decide +kernel
theorem dX6_joined_230 : decode cX6_joined 230 = .ok (.ireturn, 1) := by decide +kernel
theorem dX7_init_0 : decode cX7_init 0 = .ok (.aload_n 0, 1) := by decide +kernel
theorem dX7_init_1 : decode cX7_init 1 = .ok (.invokespecial 3, 3) := by decide +kernel
theorem dX7_init_4 : decode cX7_init 4 = .ok (.aload_n 0, 1) := by decide +kernel
theorem dX7_init_5 : decode cX7_init 5 = .ok (.bipush 9, 2) := by decide +kernel
theorem dX7_init_7 : decode cX7_init 7 = .ok (.bipush 64, 2) := by decide +kernel
theorem dX7_init_9 : decode cX7_init 9 = .ok (.multianewarray 9 2, 4) := by decide +kernel
theorem dX7_init_13 : decode cX7_init 13 = .ok (.putfield 11, 3) := by decide +kernel
theorem dX7_init_16 : decode cX7_init 16 = .ok (.aload_n 0, 1) := by decide +kernel
theorem dX7_init_17 : decode cX7_init 17 = .ok (.bipush 9, 2) := by decide +kernel
theorem dX7_init_19 : decode cX7_init 19 = .ok (.bipush 6, 2) := by decide +kernel
theorem dX7_init_21 : decode cX7_init 21 = .ok (.multianewarray 9 2, 4) := by decide +kernel
theorem dX7_init_25 : decode cX7_init 25 = .ok (.putfield 16, 3) := by decide +kernel
theorem dX7_init_28 : decode cX7_init 28 = .ok (.aload_n 0, 1) := by decide +kernel
theorem dX7_init_29 : decode cX7_init 29 = .ok (.bipush 9, 2) := by decide +kernel
theorem dX7_init_31 : decode cX7_init 31 = .ok (.bipush 6, 2) := by decide +kernel
theorem dX7_init_33 : decode cX7_init 33 = .ok (.multianewarray 9 2, 4) := by decide +kernel
theorem dX7_init_37 : decode cX7_init 37 = .ok (.putfield 19, 3) := by decide +kernel
theorem dX7_init_40 : decode cX7_init 40 = .ok (.aload_n 0, 1) := by decide +kernel
theorem dX7_init_41 : decode cX7_init 41 = .ok (.bipush 6, 2) := by decide +kernel
theorem dX7_init_43 : decode cX7_init 43 = .ok (.newarray .int, 2) := by decide +kernel
theorem dX7_init_45 : decode cX7_init 45 = .ok (.putfield 22, 3) := by decide +kernel
theorem dX7_init_48 : decode cX7_init 48 = .ok (.aload_n 0, 1) := by decide +kernel
theorem dX7_init_49 : decode cX7_init 49 = .ok (.bipush 6, 2) := by decide +kernel
theorem dX7_init_51 : decode cX7_init 51 = .ok (.newarray .int, 2) := by decide +kernel
theorem dX7_init_53 : decode cX7_init 53 = .ok (.putfield 26, 3) := by decide +kernel
theorem dX7_init_56 : decode cX7_init 56 = .ok (.aload_n 0, 1) := by decide +kernel
theorem dX7_init_57 : decode cX7_init 57 = .ok (.bipush 6, 2) := by decide +kernel
theorem dX7_init_59 : decode cX7_init 59 = .ok (.newarray .int, 2) := by decide +kernel
theorem dX7_init_61 : decode cX7_init 61 = .ok (.putfield 29, 3) := by decide +kernel
theorem dX7_init_64 : decode cX7_init 64 = .ok (.aload_n 0, 1) := by decide +kernel
theorem dX7_init_65 : decode cX7_init 65 = .ok (.bipush 6, 2) := by decide +kernel
theorem dX7_init_67 : decode cX7_init 67 = .ok (.newarray .int, 2) := by decide +kernel
theorem dX7_init_69 : decode cX7_init 69 = .ok (.putfield 32, 3) := by decide +kernel
theorem dX7_init_72 : decode cX7_init 72 = .ok (.aload_n 0, 1) := by decide +kernel
theorem dX7_init_73 : decode cX7_init 73 = .ok (.aload_n 1, 1) := by decide +kernel
theorem dX7_init_74 : decode cX7_init 74 = .ok (.putfield 35, 3) := by decide +kernel
theorem dX7_init_77 : decode cX7_init 77 = .ok (.aload_n 0, 1) := by decide +kernel
theorem dX7_init_78 : decode cX7_init 78 = .ok (.new 39, 3) := by decide +kernel
theorem dX7_init_81 : decode cX7_init 81 = .ok (.dup, 1) := by decide +kernel
theorem dX7_init_82 : decode cX7_init 82 = .ok (.aload_n 1, 1) := by decide +kernel
theorem dX7_init_83 : decode cX7_init 83 = .ok (.invokespecial 41, 3) := by decide +kernel
theorem dX7_init_86 : decode cX7_init 86 = .ok (.putfield 44, 3) := by decide +kernel
theorem dX7_init_89 : decode cX7_init 89 = .ok (.aload_n 0, 1) := by decide +kernel
theorem dX7_init_90 : decode cX7_init 90 = .ok (.new 39, 3) := by decide +kernel
theorem dX7_init_93 : decode cX7_init 93 = .ok (.dup, 1) := by decide +kernel
theorem dX7_init_94 : decode cX7_init 94 = .ok (.aload_n 1, 1) := by decide +kernel
theorem dX7_init_95 : decode cX7_init 95 = .ok (.invokespecial 41, 3) := by decide +kernel
theorem dX7_init_98 : decode cX7_init 98 = .ok (.putfield 48, 3) := by decide +kernel
theorem dX7_init_101 : decode cX7_init 101 = .ok (.return_, 1) := by decide +kernel
theorem dX7_forget_0 : decode cX7_forget 0 = .ok (.aload_n 0, 1) := by decide +kernel
theorem dX7_forget_1 : decode cX7_forget 1 = .ok (.iconst 0, 1) := by decide +kernel
theorem dX7_forget_2 : decode cX7_forget 2 = .ok (.putfield 51, 3) := by decide +kernel
theorem dX7_forget_5 : decode cX7_forget 5 = .ok (.aload_n 0, 1) := by decide +kernel
theorem dX7_forget_6 : decode cX7_forget 6 = .ok (.iconst 0, 1) := by decide +kernel
theorem dX7_forget_7 : decode cX7_forget 7 = .ok (.putfield 55, 3) := by decide +kernel
theorem dX7_forget_10 : decode cX7_forget 10 = .ok (.return_, 1) := by decide +kernel
theorem dX7_learn_0 : decode cX7_learn 0 = .ok (.aload_n 0, 1) := by decide +kernel
theorem dX7_learn_1 : decode cX7_learn 1 = .ok (.getfield 51, 3) := by decide +kernel
theorem dX7_learn_4 : decode cX7_learn 4 = .ok (.ifCond .eq 4, 3) := by decide +kernel
theorem dX7_learn_7 : decode cX7_learn 7 = .ok (.return_, 1) := by decide +kernel
theorem dX7_learn_8 : decode cX7_learn 8 = .ok (.aload_n 0, 1) := by decide +kernel
theorem dX7_learn_9 : decode cX7_learn 9 = .ok (.iconst 1, 1) := by decide +kernel
theorem dX7_learn_10 : decode cX7_learn 10 = .ok (.putfield 51, 3) := by decide +kernel
theorem dX7_learn_13 : decode cX7_learn 13 = .ok (.aload_n 0, 1) := by decide +kernel
theorem dX7_learn_14 : decode cX7_learn 14 = .ok (.getfield 44, 3) := by decide +kernel
theorem dX7_learn_17 : decode cX7_learn 17 = .ok (.aload_n 1, 1) := by decide +kernel
theorem dX7_learn_18 : decode cX7_learn 18 = .ok (.iconst 1, 1) := by decide +kernel
theorem dX7_learn_19 : decode cX7_learn 19 = .ok (.invokevirtual 58, 3) := by decide +kernel
theorem dX7_learn_22 : decode cX7_learn 22 = .ok (.aload_n 0, 1) := by decide +kernel
theorem dX7_learn_23 : decode cX7_learn 23 = .ok (.getfield 48, 3) := by decide +kernel
theorem dX7_learn_26 : decode cX7_learn 26 = .ok (.aload_n 0, 1) := by decide +kernel
theorem dX7_learn_27 : decode cX7_learn 27 = .ok (.getfield 44, 3) := by decide +kernel
theorem dX7_learn_30 : decode cX7_learn 30 = .ok (.invokevirtual 62, 3) := by decide +kernel
theorem dX7_learn_33 : decode cX7_learn 33 = .ok (.iconst 0, 1) := by decide +kernel
theorem dX7_learn_34 : decode cX7_learn 34 = .ok (.istore_n 2, 1) := by decide +kernel
theorem dX7_learn_35 : decode cX7_learn 35 = .ok (.iload_n 2, 1) := by decide +kernel
theorem dX7_learn_36 : decode cX7_learn 36 = .ok (.bipush 9, 2) := by decide +kernel
theorem dX7_learn_38 : decode cX7_learn 38 = .ok (.if_icmp .ge 80, 3) := by decide +kernel
theorem dX7_learn_41 : decode cX7_learn 41 = .ok (.aload_n 0, 1) := by decide +kernel
theorem dX7_learn_42 : decode cX7_learn 42 = .ok (.getfield 48, 3) := by decide +kernel
theorem dX7_learn_45 : decode cX7_learn 45 = .ok (.iload_n 2, 1) := by decide +kernel
theorem dX7_learn_46 : decode cX7_learn 46 = .ok (.iload_n 2, 1) := by decide +kernel
theorem dX7_learn_47 : decode cX7_learn 47 = .ok (.iconst 1, 1) := by decide +kernel
theorem dX7_learn_48 : decode cX7_learn 48 = .ok (.iadd, 1) := by decide +kernel
theorem dX7_learn_49 : decode cX7_learn 49 = .ok (.invokevirtual 66, 3) := by decide +kernel
theorem dX7_learn_52 : decode cX7_learn 52 = .ok (.aload_n 0, 1) := by decide +kernel
theorem dX7_learn_53 : decode cX7_learn 53 = .ok (.getfield 48, 3) := by decide +kernel
theorem dX7_learn_56 : decode cX7_learn 56 = .ok (.getfield 70, 3) := by decide +kernel
theorem dX7_learn_59 : decode cX7_learn 59 = .ok (.iconst 0, 1) := by decide +kernel
theorem dX7_learn_60 : decode cX7_learn 60 = .ok (.aload_n 0, 1) := by decide +kernel
theorem dX7_learn_61 : decode cX7_learn 61 = .ok (.getfield 11, 3) := by decide +kernel
theorem dX7_learn_64 : decode cX7_learn 64 = .ok (.iload_n 2, 1) := by decide +kernel
theorem dX7_learn_65 : decode cX7_learn 65 = .ok (.aaload, 1) := by decide +kernel
theorem dX7_learn_66 : decode cX7_learn 66 = .ok (.iconst 0, 1) := by decide +kernel
theorem dX7_learn_67 : decode cX7_learn 67 = .ok (.bipush 64, 2) := by decide +kernel
theorem dX7_learn_69 : decode cX7_learn 69 = .ok (.invokestatic 73, 3) := by decide +kernel
theorem dX7_learn_72 : decode cX7_learn 72 = .ok (.aload_n 0, 1) := by decide +kernel
theorem dX7_learn_73 : decode cX7_learn 73 = .ok (.getfield 48, 3) := by decide +kernel
theorem dX7_learn_76 : decode cX7_learn 76 = .ok (.getfield 79, 3) := by decide +kernel
theorem dX7_learn_79 : decode cX7_learn 79 = .ok (.iconst 0, 1) := by decide +kernel
theorem dX7_learn_80 : decode cX7_learn 80 = .ok (.aload_n 0, 1) := by decide +kernel
theorem dX7_learn_81 : decode cX7_learn 81 = .ok (.getfield 16, 3) := by decide +kernel
theorem dX7_learn_84 : decode cX7_learn 84 = .ok (.iload_n 2, 1) := by decide +kernel
theorem dX7_learn_85 : decode cX7_learn 85 = .ok (.aaload, 1) := by decide +kernel
theorem dX7_learn_86 : decode cX7_learn 86 = .ok (.iconst 0, 1) := by decide +kernel
theorem dX7_learn_87 : decode cX7_learn 87 = .ok (.bipush 6, 2) := by decide +kernel
theorem dX7_learn_89 : decode cX7_learn 89 = .ok (.invokestatic 73, 3) := by decide +kernel
theorem dX7_learn_92 : decode cX7_learn 92 = .ok (.aload_n 0, 1) := by decide +kernel
theorem dX7_learn_93 : decode cX7_learn 93 = .ok (.getfield 48, 3) := by decide +kernel
theorem dX7_learn_96 : decode cX7_learn 96 = .ok (.getfield 82, 3) := by decide +kernel
theorem dX7_learn_99 : decode cX7_learn 99 = .ok (.iconst 0, 1) := by decide +kernel
theorem dX7_learn_100 : decode cX7_learn 100 = .ok (.aload_n 0, 1) := by decide +kernel
theorem dX7_learn_101 : decode cX7_learn 101 = .ok (.getfield 19, 3) := by decide +kernel
theorem dX7_learn_104 : decode cX7_learn 104 = .ok (.iload_n 2, 1) := by decide +kernel
theorem dX7_learn_105 : decode cX7_learn 105 = .ok (.aaload, 1) := by decide +kernel
theorem dX7_learn_106 : decode cX7_learn 106 = .ok (.iconst 0, 1) := by decide +kernel
theorem dX7_learn_107 : decode cX7_learn 107 = .ok (.bipush 6, 2) := by decide +kernel
theorem dX7_learn_109 : decode cX7_learn 109 = .ok (.invokestatic 73, 3) := by decide +kernel
theorem dX7_learn_112 : decode cX7_learn 112 = .ok (.iinc 2 1, 3) := by decide +kernel
theorem dX7_learn_115 : decode cX7_learn 115 = .ok (.goto (-80), 3) := by decide +kernel
theorem dX7_learn_118 : decode cX7_learn 118 = .ok (.iconst 0, 1) := by decide +kernel
theorem dX7_learn_119 : decode cX7_learn 119 = .ok (.istore_n 2, 1) := by decide +kernel
theorem dX7_learn_120 : decode cX7_learn 120 = .ok (.iload_n 2, 1) := by decide +kernel
theorem dX7_learn_121 : decode cX7_learn 121 = .ok (.bipush 6, 2) := by decide +kernel
theorem dX7_learn_123 : decode cX7_learn 123 = .ok (.if_icmp .ge 23, 3) := by decide +kernel
theorem dX7_learn_126 : decode cX7_learn 126 = .ok (.aload_n 0, 1) := by decide +kernel
theorem dX7_learn_127 : decode cX7_learn 127 = .ok (.getfield 22, 3) := by decide +kernel
theorem dX7_learn_130 : decode cX7_learn 130 = .ok (.iload_n 2, 1) := by decide +kernel
theorem dX7_learn_131 : decode cX7_learn 131 = .ok (.iconst (-1), 1) := by decide +kernel
theorem dX7_learn_132 : decode cX7_learn 132 = .ok (.iastore, 1) := by decide +kernel
theorem dX7_learn_133 : decode cX7_learn 133 = .ok (.aload_n 0, 1) := by decide +kernel
theorem dX7_learn_134 : decode cX7_learn 134 = .ok (.getfield 29, 3) := by decide +kernel
theorem dX7_learn_137 : decode cX7_learn 137 = .ok (.iload_n 2, 1) := by decide +kernel
theorem dX7_learn_138 : decode cX7_learn 138 = .ok (.iconst (-1), 1) := by decide +kernel
theorem dX7_learn_139 : decode cX7_learn 139 = .ok (.iastore, 1) := by decide +kernel
theorem dX7_learn_140 : decode cX7_learn 140 = .ok (.iinc 2 1, 3) := by decide +kernel
theorem dX7_learn_143 : decode cX7_learn 143 = .ok (.goto (-23), 3) := by decide +kernel
theorem dX7_learn_146 : decode cX7_learn 146 = .ok (.return_, 1) := by decide +kernel
theorem dX7_findRise_0 : decode cX7_findRise 0 = .ok (.aload_n 0, 1) := by decide +kernel
theorem dX7_findRise_1 : decode cX7_findRise 1 = .ok (.getfield 22, 3) := by decide +kernel
theorem dX7_findRise_4 : decode cX7_findRise 4 = .ok (.iload_n 1, 1) := by decide +kernel
theorem dX7_findRise_5 : decode cX7_findRise 5 = .ok (.iaload, 1) := by decide +kernel
theorem dX7_findRise_6 : decode cX7_findRise 6 = .ok (.iconst (-1), 1) := by decide +kernel
theorem dX7_findRise_7 : decode cX7_findRise 7 = .ok (.if_icmp .eq 4, 3) := by decide +kernel
theorem dX7_findRise_10 : decode cX7_findRise 10 = .ok (.return_, 1) := by decide +kernel
theorem dX7_findRise_11 : decode cX7_findRise 11 = .ok (.aload_n 0, 1) := by decide +kernel
theorem dX7_findRise_12 : decode cX7_findRise 12 = .ok (.getfield 26, 3) := by decide +kernel
theorem dX7_findRise_15 : decode cX7_findRise 15 = .ok (.iload_n 1, 1) := by decide +kernel
theorem dX7_findRise_16 : decode cX7_findRise 16 = .ok (.iconst (-1), 1) := by decide +kernel
theorem dX7_findRise_17 : decode cX7_findRise 17 = .ok (.iastore, 1) := by decide +kernel
theorem dX7_findRise_18 : decode cX7_findRise 18 = .ok (.iconst 0, 1) := by decide +kernel
theorem dX7_findRise_19 : decode cX7_findRise 19 = .ok (.istore_n 2, 1) := by decide +kernel
theorem dX7_findRise_20 : decode cX7_findRise 20 = .ok (.iload_n 2, 1) := by decide +kernel
theorem dX7_findRise_21 : decode cX7_findRise 21 = .ok (.bipush 9, 2) := by decide +kernel
theorem dX7_findRise_23 : decode cX7_findRise 23 = .ok (.if_icmp .ge 80, 3) := by decide +kernel
theorem dX7_findRise_26 : decode cX7_findRise 26 = .ok (.aload_n 0, 1) := by decide +kernel
theorem dX7_findRise_27 : decode cX7_findRise 27 = .ok (.getfield 48, 3) := by decide +kernel
theorem dX7_findRise_30 : decode cX7_findRise 30 = .ok (.aload_n 0, 1) := by decide +kernel
theorem dX7_findRise_31 : decode cX7_findRise 31 = .ok (.getfield 44, 3) := by decide +kernel
theorem dX7_findRise_34 : decode cX7_findRise 34 = .ok (.invokevirtual 62, 3) := by decide +kernel
theorem dX7_findRise_37 : decode cX7_findRise 37 = .ok (.aload_n 0, 1) := by decide +kernel
theorem dX7_findRise_38 : decode cX7_findRise 38 = .ok (.getfield 48, 3) := by decide +kernel
theorem dX7_findRise_41 : decode cX7_findRise 41 = .ok (.getfield 85, 3) := by decide +kernel
theorem dX7_findRise_44 : decode cX7_findRise 44 = .ok (.iload_n 1, 1) := by decide +kernel
theorem dX7_findRise_45 : decode cX7_findRise 45 = .ok (.iload_n 2, 1) := by decide +kernel
theorem dX7_findRise_46 : decode cX7_findRise 46 = .ok (.iastore, 1) := by decide +kernel
theorem dX7_findRise_47 : decode cX7_findRise 47 = .ok (.aload_n 0, 1) := by decide +kernel
theorem dX7_findRise_48 : decode cX7_findRise 48 = .ok (.getfield 48, 3) := by decide +kernel
theorem dX7_findRise_51 : decode cX7_findRise 51 = .ok (.iconst 0, 1) := by decide +kernel
theorem dX7_findRise_52 : decode cX7_findRise 52 = .ok (.bipush 9, 2) := by decide +kernel
theorem dX7_findRise_54 : decode cX7_findRise 54 = .ok (.invokevirtual 66, 3) := by decide +kernel
theorem dX7_findRise_57 : decode cX7_findRise 57 = .ok (.aload_n 0, 1) := by decide +kernel
theorem dX7_findRise_58 : decode cX7_findRise 58 = .ok (.getfield 48, 3) := by decide +kernel
theorem dX7_findRise_61 : decode cX7_findRise 61 = .ok (.getfield 82, 3) := by decide +kernel
theorem dX7_findRise_64 : decode cX7_findRise 64 = .ok (.iload_n 1, 1) := by decide +kernel
theorem dX7_findRise_65 : decode cX7_findRise 65 = .ok (.iaload, 1) := by decide +kernel
theorem dX7_findRise_66 : decode cX7_findRise 66 = .ok (.aload_n 0, 1) := by decide +kernel
theorem dX7_findRise_67 : decode cX7_findRise 67 = .ok (.getfield 26, 3) := by decide +kernel
theorem dX7_findRise_70 : decode cX7_findRise 70 = .ok (.iload_n 1, 1) := by decide +kernel
theorem dX7_findRise_71 : decode cX7_findRise 71 = .ok (.iaload, 1) := by decide +kernel
theorem dX7_findRise_72 : decode cX7_findRise 72 = .ok (.if_icmp .le 25, 3) := by decide +kernel
theorem dX7_findRise_75 : decode cX7_findRise 75 = .ok (.aload_n 0, 1) := by decide +kernel
theorem dX7_findRise_76 : decode cX7_findRise 76 = .ok (.getfield 26, 3) := by decide +kernel
theorem dX7_findRise_79 : decode cX7_findRise 79 = .ok (.iload_n 1, 1) := by decide +kernel
theorem dX7_findRise_80 : decode cX7_findRise 80 = .ok (.aload_n 0, 1) := by decide +kernel
theorem dX7_findRise_81 : decode cX7_findRise 81 = .ok (.getfield 48, 3) := by decide +kernel
theorem dX7_findRise_84 : decode cX7_findRise 84 = .ok (.getfield 82, 3) := by decide +kernel
theorem dX7_findRise_87 : decode cX7_findRise 87 = .ok (.iload_n 1, 1) := by decide +kernel
theorem dX7_findRise_88 : decode cX7_findRise 88 = .ok (.iaload, 1) := by decide +kernel
theorem dX7_findRise_89 : decode cX7_findRise 89 = .ok (.iastore, 1) := by decide +kernel
theorem dX7_findRise_90 : decode cX7_findRise 90 = .ok (.aload_n 0, 1) := by decide +kernel
theorem dX7_findRise_91 : decode cX7_findRise 91 = .ok (.getfield 22, 3) := by decide +kernel
theorem dX7_findRise_94 : decode cX7_findRise 94 = .ok (.iload_n 1, 1) := by decide +kernel
theorem dX7_findRise_95 : decode cX7_findRise 95 = .ok (.iload_n 2, 1) := by decide +kernel
theorem dX7_findRise_96 : decode cX7_findRise 96 = .ok (.iastore, 1) := by decide +kernel
theorem dX7_findRise_97 : decode cX7_findRise 97 = .ok (.iinc 2 1, 3) := by decide +kernel
theorem dX7_findRise_100 : decode cX7_findRise 100 = .ok (.goto (-80), 3) := by decide +kernel
theorem dX7_findRise_103 : decode cX7_findRise 103 = .ok (.return_, 1) := by decide +kernel
theorem dX7_findHome_0 : decode cX7_findHome 0 = .ok (.aload_n 0, 1) := by decide +kernel
theorem dX7_findHome_1 : decode cX7_findHome 1 = .ok (.getfield 29, 3) := by decide +kernel
theorem dX7_findHome_4 : decode cX7_findHome 4 = .ok (.iload_n 1, 1) := by decide +kernel
theorem dX7_findHome_5 : decode cX7_findHome 5 = .ok (.iaload, 1) := by decide +kernel
theorem dX7_findHome_6 : decode cX7_findHome 6 = .ok (.iconst (-1), 1) := by decide +kernel
theorem dX7_findHome_7 : decode cX7_findHome 7 = .ok (.if_icmp .eq 4, 3) := by decide +kernel
theorem dX7_findHome_10 : decode cX7_findHome 10 = .ok (.return_, 1) := by decide +kernel
theorem dX7_findHome_11 : decode cX7_findHome 11 = .ok (.aload_n 0, 1) := by decide +kernel
theorem dX7_findHome_12 : decode cX7_findHome 12 = .ok (.getfield 32, 3) := by decide +kernel
theorem dX7_findHome_15 : decode cX7_findHome 15 = .ok (.iload_n 1, 1) := by decide +kernel
theorem dX7_findHome_16 : decode cX7_findHome 16 = .ok (.iconst (-1), 1) := by decide +kernel
theorem dX7_findHome_17 : decode cX7_findHome 17 = .ok (.iastore, 1) := by decide +kernel
theorem dX7_findHome_18 : decode cX7_findHome 18 = .ok (.iconst 0, 1) := by decide +kernel
theorem dX7_findHome_19 : decode cX7_findHome 19 = .ok (.istore_n 2, 1) := by decide +kernel
theorem dX7_findHome_20 : decode cX7_findHome 20 = .ok (.iload_n 2, 1) := by decide +kernel
theorem dX7_findHome_21 : decode cX7_findHome 21 = .ok (.aload_n 0, 1) := by decide +kernel
theorem dX7_findHome_22 : decode cX7_findHome 22 = .ok (.getfield 35, 3) := by decide +kernel
theorem dX7_findHome_25 : decode cX7_findHome 25 = .ok (.getfield 88, 3) := by decide +kernel
theorem dX7_findHome_28 : decode cX7_findHome 28 = .ok (.if_icmp .ge 80, 3) := by decide +kernel
theorem dX7_findHome_31 : decode cX7_findHome 31 = .ok (.aload_n 0, 1) := by decide +kernel
theorem dX7_findHome_32 : decode cX7_findHome 32 = .ok (.getfield 48, 3) := by decide +kernel
theorem dX7_findHome_35 : decode cX7_findHome 35 = .ok (.aload_n 0, 1) := by decide +kernel
theorem dX7_findHome_36 : decode cX7_findHome 36 = .ok (.getfield 44, 3) := by decide +kernel
theorem dX7_findHome_39 : decode cX7_findHome 39 = .ok (.invokevirtual 62, 3) := by decide +kernel
theorem dX7_findHome_42 : decode cX7_findHome 42 = .ok (.aload_n 0, 1) := by decide +kernel
theorem dX7_findHome_43 : decode cX7_findHome 43 = .ok (.getfield 48, 3) := by decide +kernel
theorem dX7_findHome_46 : decode cX7_findHome 46 = .ok (.getfield 79, 3) := by decide +kernel
theorem dX7_findHome_49 : decode cX7_findHome 49 = .ok (.iload_n 1, 1) := by decide +kernel
theorem dX7_findHome_50 : decode cX7_findHome 50 = .ok (.iload_n 2, 1) := by decide +kernel
theorem dX7_findHome_51 : decode cX7_findHome 51 = .ok (.iastore, 1) := by decide +kernel
theorem dX7_findHome_52 : decode cX7_findHome 52 = .ok (.aload_n 0, 1) := by decide +kernel
theorem dX7_findHome_53 : decode cX7_findHome 53 = .ok (.getfield 48, 3) := by decide +kernel
theorem dX7_findHome_56 : decode cX7_findHome 56 = .ok (.iconst 0, 1) := by decide +kernel
theorem dX7_findHome_57 : decode cX7_findHome 57 = .ok (.bipush 9, 2) := by decide +kernel
theorem dX7_findHome_59 : decode cX7_findHome 59 = .ok (.invokevirtual 66, 3) := by decide +kernel
theorem dX7_findHome_62 : decode cX7_findHome 62 = .ok (.aload_n 0, 1) := by decide +kernel
theorem dX7_findHome_63 : decode cX7_findHome 63 = .ok (.getfield 48, 3) := by decide +kernel
theorem dX7_findHome_66 : decode cX7_findHome 66 = .ok (.getfield 82, 3) := by decide +kernel
theorem dX7_findHome_69 : decode cX7_findHome 69 = .ok (.iload_n 1, 1) := by decide +kernel
theorem dX7_findHome_70 : decode cX7_findHome 70 = .ok (.iaload, 1) := by decide +kernel
theorem dX7_findHome_71 : decode cX7_findHome 71 = .ok (.aload_n 0, 1) := by decide +kernel
theorem dX7_findHome_72 : decode cX7_findHome 72 = .ok (.getfield 32, 3) := by decide +kernel
theorem dX7_findHome_75 : decode cX7_findHome 75 = .ok (.iload_n 1, 1) := by decide +kernel
theorem dX7_findHome_76 : decode cX7_findHome 76 = .ok (.iaload, 1) := by decide +kernel
theorem dX7_findHome_77 : decode cX7_findHome 77 = .ok (.if_icmp .le 25, 3) := by decide +kernel
theorem dX7_findHome_80 : decode cX7_findHome 80 = .ok (.aload_n 0, 1) := by decide +kernel
theorem dX7_findHome_81 : decode cX7_findHome 81 = .ok (.getfield 32, 3) := by decide +kernel
theorem dX7_findHome_84 : decode cX7_findHome 84 = .ok (.iload_n 1, 1) := by decide +kernel
theorem dX7_findHome_85 : decode cX7_findHome 85 = .ok (.aload_n 0, 1) := by decide +kernel
theorem dX7_findHome_86 : decode cX7_findHome 86 = .ok (.getfield 48, 3) := by decide +kernel
theorem dX7_findHome_89 : decode cX7_findHome 89 = .ok (.getfield 82, 3) := by decide +kernel
theorem dX7_findHome_92 : decode cX7_findHome 92 = .ok (.iload_n 1, 1) := by decide +kernel
theorem dX7_findHome_93 : decode cX7_findHome 93 = .ok (.iaload, 1) := by decide +kernel
theorem dX7_findHome_94 : decode cX7_findHome 94 = .ok (.iastore, 1) := by decide +kernel
theorem dX7_findHome_95 : decode cX7_findHome 95 = .ok (.aload_n 0, 1) := by decide +kernel
theorem dX7_findHome_96 : decode cX7_findHome 96 = .ok (.getfield 29, 3) := by decide +kernel
theorem dX7_findHome_99 : decode cX7_findHome 99 = .ok (.iload_n 1, 1) := by decide +kernel
theorem dX7_findHome_100 : decode cX7_findHome 100 = .ok (.iload_n 2, 1) := by decide +kernel
theorem dX7_findHome_101 : decode cX7_findHome 101 = .ok (.iastore, 1) := by decide +kernel
theorem dX7_findHome_102 : decode cX7_findHome 102 = .ok (.iinc 2 1, 3) := by decide +kernel
theorem dX7_findHome_105 : decode cX7_findHome 105 = .ok (.goto (-85), 3) := by decide +kernel
theorem dX7_findHome_108 : decode cX7_findHome 108 = .ok (.return_, 1) := by decide +kernel
theorem dX7_findChange_0 : decode cX7_findChange 0 = .ok (.aload_n 0, 1) := by decide +kernel
theorem dX7_findChange_1 : decode cX7_findChange 1 = .ok (.getfield 55, 3) := by decide +kernel
theorem dX7_findChange_4 : decode cX7_findChange 4 = .ok (.ifCond .eq 4, 3) := by decide +kernel
theorem dX7_findChange_7 : decode cX7_findChange 7 = .ok (.return_, 1) := by decide +kernel
theorem dX7_findChange_8 : decode cX7_findChange 8 = .ok (.aload_n 0, 1) := by decide +kernel
theorem dX7_findChange_9 : decode cX7_findChange 9 = .ok (.iconst 1, 1) := by decide +kernel
theorem dX7_findChange_10 : decode cX7_findChange 10 = .ok (.putfield 55, 3) := by decide +kernel
theorem dX7_findChange_13 : decode cX7_findChange 13 = .ok (.aload_n 0, 1) := by decide +kernel
theorem dX7_findChange_14 : decode cX7_findChange 14 = .ok (.iconst (-1), 1) := by decide +kernel
theorem dX7_findChange_15 : decode cX7_findChange 15 = .ok (.putfield 94, 3) := by decide +kernel
theorem dX7_findChange_18 : decode cX7_findChange 18 = .ok (.aload_n 0, 1) := by decide +kernel
theorem dX7_findChange_19 : decode cX7_findChange 19 = .ok (.aload_n 0, 1) := by decide +kernel
theorem dX7_findChange_20 : decode cX7_findChange 20 = .ok (.getfield 19, 3) := by decide +kernel
theorem dX7_findChange_23 : decode cX7_findChange 23 = .ok (.bipush 8, 2) := by decide +kernel
theorem dX7_findChange_25 : decode cX7_findChange 25 = .ok (.aaload, 1) := by decide +kernel
theorem dX7_findChange_26 : decode cX7_findChange 26 = .ok (.aload_n 0, 1) := by decide +kernel
theorem dX7_findChange_27 : decode cX7_findChange 27 = .ok (.getfield 35, 3) := by decide +kernel
theorem dX7_findChange_30 : decode cX7_findChange 30 = .ok (.getfield 97, 3) := by decide +kernel
theorem dX7_findChange_33 : decode cX7_findChange 33 = .ok (.invokestatic 100, 3) := by decide +kernel
theorem dX7_findChange_36 : decode cX7_findChange 36 = .ok (.putfield 104, 3) := by decide +kernel
theorem dX7_findChange_39 : decode cX7_findChange 39 = .ok (.iconst 0, 1) := by decide +kernel
theorem dX7_findChange_40 : decode cX7_findChange 40 = .ok (.istore_n 1, 1) := by decide +kernel
theorem dX7_findChange_41 : decode cX7_findChange 41 = .ok (.iload_n 1, 1) := by decide +kernel
theorem dX7_findChange_42 : decode cX7_findChange 42 = .ok (.aload_n 0, 1) := by decide +kernel
theorem dX7_findChange_43 : decode cX7_findChange 43 = .ok (.getfield 35, 3) := by decide +kernel
theorem dX7_findChange_46 : decode cX7_findChange 46 = .ok (.getfield 97, 3) := by decide +kernel
theorem dX7_findChange_49 : decode cX7_findChange 49 = .ok (.if_icmp .ge 36, 3) := by decide +kernel
theorem dX7_findChange_52 : decode cX7_findChange 52 = .ok (.iload_n 1, 1) := by decide +kernel
theorem dX7_findChange_53 : decode cX7_findChange 53 = .ok (.iconst 1, 1) := by decide +kernel
theorem dX7_findChange_54 : decode cX7_findChange 54 = .ok (.iadd, 1) := by decide +kernel
theorem dX7_findChange_55 : decode cX7_findChange 55 = .ok (.istore_n 2, 1) := by decide +kernel
theorem dX7_findChange_56 : decode cX7_findChange 56 = .ok (.iload_n 2, 1) := by decide +kernel
theorem dX7_findChange_57 : decode cX7_findChange 57 = .ok (.aload_n 0, 1) := by decide +kernel
theorem dX7_findChange_58 : decode cX7_findChange 58 = .ok (.getfield 35, 3) := by decide +kernel
theorem dX7_findChange_61 : decode cX7_findChange 61 = .ok (.getfield 97, 3) := by decide +kernel
theorem dX7_findChange_64 : decode cX7_findChange 64 = .ok (.if_icmp .ge 15, 3) := by decide +kernel
theorem dX7_findChange_67 : decode cX7_findChange 67 = .ok (.aload_n 0, 1) := by decide +kernel
theorem dX7_findChange_68 : decode cX7_findChange 68 = .ok (.iload_n 1, 1) := by decide +kernel
theorem dX7_findChange_69 : decode cX7_findChange 69 = .ok (.iload_n 2, 1) := by decide +kernel
theorem dX7_findChange_70 : decode cX7_findChange 70 = .ok (.invokevirtual 107, 3) := by decide +kernel
theorem dX7_findChange_73 : decode cX7_findChange 73 = .ok (.iinc 2 1, 3) := by decide +kernel
theorem dX7_findChange_76 : decode cX7_findChange 76 = .ok (.goto (-20), 3) := by decide +kernel
theorem dX7_findChange_79 : decode cX7_findChange 79 = .ok (.iinc 1 1, 3) := by decide +kernel
theorem dX7_findChange_82 : decode cX7_findChange 82 = .ok (.goto (-41), 3) := by decide +kernel
theorem dX7_findChange_85 : decode cX7_findChange 85 = .ok (.return_, 1) := by decide +kernel
theorem dX7_tryChange_0 : decode cX7_tryChange 0 = .ok (.aload_n 0, 1) := by decide +kernel
theorem dX7_tryChange_1 : decode cX7_tryChange 1 = .ok (.getfield 48, 3) := by decide +kernel
theorem dX7_tryChange_4 : decode cX7_tryChange 4 = .ok (.aload_n 0, 1) := by decide +kernel
theorem dX7_tryChange_5 : decode cX7_tryChange 5 = .ok (.getfield 44, 3) := by decide +kernel
theorem dX7_tryChange_8 : decode cX7_tryChange 8 = .ok (.invokevirtual 62, 3) := by decide +kernel
theorem dX7_tryChange_11 : decode cX7_tryChange 11 = .ok (.aload_n 0, 1) := by decide +kernel
theorem dX7_tryChange_12 : decode cX7_tryChange 12 = .ok (.getfield 48, 3) := by decide +kernel
theorem dX7_tryChange_15 : decode cX7_tryChange 15 = .ok (.getfield 110, 3) := by decide +kernel
theorem dX7_tryChange_18 : decode cX7_tryChange 18 = .ok (.iload_n 1, 1) := by decide +kernel
theorem dX7_tryChange_19 : decode cX7_tryChange 19 = .ok (.aload_n 0, 1) := by decide +kernel
theorem dX7_tryChange_20 : decode cX7_tryChange 20 = .ok (.getfield 44, 3) := by decide +kernel
theorem dX7_tryChange_23 : decode cX7_tryChange 23 = .ok (.getfield 110, 3) := by decide +kernel
theorem dX7_tryChange_26 : decode cX7_tryChange 26 = .ok (.iload_n 2, 1) := by decide +kernel
theorem dX7_tryChange_27 : decode cX7_tryChange 27 = .ok (.iaload, 1) := by decide +kernel
theorem dX7_tryChange_28 : decode cX7_tryChange 28 = .ok (.iastore, 1) := by decide +kernel
theorem dX7_tryChange_29 : decode cX7_tryChange 29 = .ok (.aload_n 0, 1) := by decide +kernel
theorem dX7_tryChange_30 : decode cX7_tryChange 30 = .ok (.getfield 48, 3) := by decide +kernel
theorem dX7_tryChange_33 : decode cX7_tryChange 33 = .ok (.getfield 110, 3) := by decide +kernel
theorem dX7_tryChange_36 : decode cX7_tryChange 36 = .ok (.iload_n 2, 1) := by decide +kernel
theorem dX7_tryChange_37 : decode cX7_tryChange 37 = .ok (.aload_n 0, 1) := by decide +kernel
theorem dX7_tryChange_38 : decode cX7_tryChange 38 = .ok (.getfield 44, 3) := by decide +kernel
theorem dX7_tryChange_41 : decode cX7_tryChange 41 = .ok (.getfield 110, 3) := by decide +kernel
theorem dX7_tryChange_44 : decode cX7_tryChange 44 = .ok (.iload_n 1, 1) := by decide +kernel
theorem dX7_tryChange_45 : decode cX7_tryChange 45 = .ok (.iaload, 1) := by decide +kernel
theorem dX7_tryChange_46 : decode cX7_tryChange 46 = .ok (.iastore, 1) := by decide +kernel
theorem dX7_tryChange_47 : decode cX7_tryChange 47 = .ok (.aload_n 0, 1) := by decide +kernel
theorem dX7_tryChange_48 : decode cX7_tryChange 48 = .ok (.getfield 48, 3) := by decide +kernel
theorem dX7_tryChange_51 : decode cX7_tryChange 51 = .ok (.iconst 0, 1) := by decide +kernel
theorem dX7_tryChange_52 : decode cX7_tryChange 52 = .ok (.bipush 9, 2) := by decide +kernel
theorem dX7_tryChange_54 : decode cX7_tryChange 54 = .ok (.invokevirtual 66, 3) := by decide +kernel
theorem dX7_tryChange_57 : decode cX7_tryChange 57 = .ok (.aload_n 0, 1) := by decide +kernel
theorem dX7_tryChange_58 : decode cX7_tryChange 58 = .ok (.getfield 48, 3) := by decide +kernel
theorem dX7_tryChange_61 : decode cX7_tryChange 61 = .ok (.invokevirtual 113, 3) := by decide +kernel
theorem dX7_tryChange_64 : decode cX7_tryChange 64 = .ok (.aload_n 0, 1) := by decide +kernel
theorem dX7_tryChange_65 : decode cX7_tryChange 65 = .ok (.getfield 104, 3) := by decide +kernel
theorem dX7_tryChange_68 : decode cX7_tryChange 68 = .ok (.if_icmp .le 24, 3) := by decide +kernel
theorem dX7_tryChange_71 : decode cX7_tryChange 71 = .ok (.aload_n 0, 1) := by decide +kernel
theorem dX7_tryChange_72 : decode cX7_tryChange 72 = .ok (.aload_n 0, 1) := by decide +kernel
theorem dX7_tryChange_73 : decode cX7_tryChange 73 = .ok (.getfield 48, 3) := by decide +kernel
theorem dX7_tryChange_76 : decode cX7_tryChange 76 = .ok (.invokevirtual 113, 3) := by decide +kernel
theorem dX7_tryChange_79 : decode cX7_tryChange 79 = .ok (.putfield 104, 3) := by decide +kernel
theorem dX7_tryChange_82 : decode cX7_tryChange 82 = .ok (.aload_n 0, 1) := by decide +kernel
theorem dX7_tryChange_83 : decode cX7_tryChange 83 = .ok (.iload_n 1, 1) := by decide +kernel
theorem dX7_tryChange_84 : decode cX7_tryChange 84 = .ok (.putfield 94, 3) := by decide +kernel
theorem dX7_tryChange_87 : decode cX7_tryChange 87 = .ok (.aload_n 0, 1) := by decide +kernel
theorem dX7_tryChange_88 : decode cX7_tryChange 88 = .ok (.iload_n 2, 1) := by decide +kernel
theorem dX7_tryChange_89 : decode cX7_tryChange 89 = .ok (.putfield 117, 3) := by decide +kernel
theorem dX7_tryChange_92 : decode cX7_tryChange 92 = .ok (.return_, 1) := by decide +kernel
theorem dX8_init_0 : decode cX8_init 0 = .ok (.aload_n 0, 1) := by decide +kernel
theorem dX8_init_1 : decode cX8_init 1 = .ok (.invokespecial 3, 3) := by decide +kernel
theorem dX8_init_4 : decode cX8_init 4 = .ok (.aload_n 0, 1) := by decide +kernel
theorem dX8_init_5 : decode cX8_init 5 = .ok (.bipush 64, 2) := by decide +kernel
theorem dX8_init_7 : decode cX8_init 7 = .ok (.newarray .int, 2) := by decide +kernel
theorem dX8_init_9 : decode cX8_init 9 = .ok (.putfield 9, 3) := by decide +kernel
theorem dX8_init_12 : decode cX8_init 12 = .ok (.aload_n 0, 1) := by decide +kernel
theorem dX8_init_13 : decode cX8_init 13 = .ok (.bipush 6, 2) := by decide +kernel
theorem dX8_init_15 : decode cX8_init 15 = .ok (.newarray .int, 2) := by decide +kernel
theorem dX8_init_17 : decode cX8_init 17 = .ok (.putfield 15, 3) := by decide +kernel
theorem dX8_init_20 : decode cX8_init 20 = .ok (.aload_n 0, 1) := by decide +kernel
theorem dX8_init_21 : decode cX8_init 21 = .ok (.bipush 6, 2) := by decide +kernel
theorem dX8_init_23 : decode cX8_init 23 = .ok (.newarray .int, 2) := by decide +kernel
theorem dX8_init_25 : decode cX8_init 25 = .ok (.putfield 18, 3) := by decide +kernel
theorem dX8_init_28 : decode cX8_init 28 = .ok (.aload_n 0, 1) := by decide +kernel
theorem dX8_init_29 : decode cX8_init 29 = .ok (.bipush 6, 2) := by decide +kernel
theorem dX8_init_31 : decode cX8_init 31 = .ok (.newarray .int, 2) := by decide +kernel
theorem dX8_init_33 : decode cX8_init 33 = .ok (.putfield 21, 3) := by decide +kernel
theorem dX8_init_36 : decode cX8_init 36 = .ok (.aload_n 0, 1) := by decide +kernel
theorem dX8_init_37 : decode cX8_init 37 = .ok (.bipush 6, 2) := by decide +kernel
theorem dX8_init_39 : decode cX8_init 39 = .ok (.newarray .int, 2) := by decide +kernel
theorem dX8_init_41 : decode cX8_init 41 = .ok (.putfield 24, 3) := by decide +kernel
theorem dX8_init_44 : decode cX8_init 44 = .ok (.aload_n 0, 1) := by decide +kernel
theorem dX8_init_45 : decode cX8_init 45 = .ok (.bipush 7, 2) := by decide +kernel
theorem dX8_init_47 : decode cX8_init 47 = .ok (.newarray .int, 2) := by decide +kernel
theorem dX8_init_49 : decode cX8_init 49 = .ok (.putfield 29, 3) := by decide +kernel
theorem dX8_init_52 : decode cX8_init 52 = .ok (.aload_n 0, 1) := by decide +kernel
theorem dX8_init_53 : decode cX8_init 53 = .ok (.bipush 63, 2) := by decide +kernel
theorem dX8_init_55 : decode cX8_init 55 = .ok (.putfield 32, 3) := by decide +kernel
theorem dX8_init_58 : decode cX8_init 58 = .ok (.aload_n 0, 1) := by decide +kernel
theorem dX8_init_59 : decode cX8_init 59 = .ok (.aload_n 1, 1) := by decide +kernel
theorem dX8_init_60 : decode cX8_init 60 = .ok (.putfield 36, 3) := by decide +kernel
theorem dX8_init_63 : decode cX8_init 63 = .ok (.return_, 1) := by decide +kernel
theorem dX8_begin_0 : decode cX8_begin 0 = .ok (.aload_n 0, 1) := by decide +kernel
theorem dX8_begin_1 : decode cX8_begin 1 = .ok (.aload_n 1, 1) := by decide +kernel
theorem dX8_begin_2 : decode cX8_begin 2 = .ok (.getfield 40, 3) := by decide +kernel
theorem dX8_begin_5 : decode cX8_begin 5 = .ok (.putfield 45, 3) := by decide +kernel
theorem dX8_begin_8 : decode cX8_begin 8 = .ok (.aload_n 0, 1) := by decide +kernel
theorem dX8_begin_9 : decode cX8_begin 9 = .ok (.bipush 63, 2) := by decide +kernel
theorem dX8_begin_11 : decode cX8_begin 11 = .ok (.putfield 32, 3) := by decide +kernel
theorem dX8_begin_14 : decode cX8_begin 14 = .ok (.aload_n 1, 1) := by decide +kernel
theorem dX8_begin_15 : decode cX8_begin 15 = .ok (.getfield 46, 3) := by decide +kernel
theorem dX8_begin_18 : decode cX8_begin 18 = .ok (.iconst 0, 1) := by decide +kernel
theorem dX8_begin_19 : decode cX8_begin 19 = .ok (.aload_n 0, 1) := by decide +kernel
theorem dX8_begin_20 : decode cX8_begin 20 = .ok (.getfield 9, 3) := by decide +kernel
theorem dX8_begin_23 : decode cX8_begin 23 = .ok (.iconst 0, 1) := by decide +kernel
theorem dX8_begin_24 : decode cX8_begin 24 = .ok (.bipush 64, 2) := by decide +kernel
theorem dX8_begin_26 : decode cX8_begin 26 = .ok (.invokestatic 47, 3) := by decide +kernel
theorem dX8_begin_29 : decode cX8_begin 29 = .ok (.aload_n 1, 1) := by decide +kernel
theorem dX8_begin_30 : decode cX8_begin 30 = .ok (.getfield 53, 3) := by decide +kernel
theorem dX8_begin_33 : decode cX8_begin 33 = .ok (.iconst 0, 1) := by decide +kernel
theorem dX8_begin_34 : decode cX8_begin 34 = .ok (.aload_n 0, 1) := by decide +kernel
theorem dX8_begin_35 : decode cX8_begin 35 = .ok (.getfield 21, 3) := by decide +kernel
theorem dX8_begin_38 : decode cX8_begin 38 = .ok (.iconst 0, 1) := by decide +kernel
theorem dX8_begin_39 : decode cX8_begin 39 = .ok (.bipush 6, 2) := by decide +kernel
theorem dX8_begin_41 : decode cX8_begin 41 = .ok (.invokestatic 47, 3) := by decide +kernel
theorem dX8_begin_44 : decode cX8_begin 44 = .ok (.aload_n 1, 1) := by decide +kernel
theorem dX8_begin_45 : decode cX8_begin 45 = .ok (.getfield 56, 3) := by decide +kernel
theorem dX8_begin_48 : decode cX8_begin 48 = .ok (.iconst 0, 1) := by decide +kernel
theorem dX8_begin_49 : decode cX8_begin 49 = .ok (.aload_n 0, 1) := by decide +kernel
theorem dX8_begin_50 : decode cX8_begin 50 = .ok (.getfield 15, 3) := by decide +kernel
theorem dX8_begin_53 : decode cX8_begin 53 = .ok (.iconst 0, 1) := by decide +kernel
theorem dX8_begin_54 : decode cX8_begin 54 = .ok (.bipush 6, 2) := by decide +kernel
theorem dX8_begin_56 : decode cX8_begin 56 = .ok (.invokestatic 47, 3) := by decide +kernel
theorem dX8_begin_59 : decode cX8_begin 59 = .ok (.aload_n 1, 1) := by decide +kernel
theorem dX8_begin_60 : decode cX8_begin 60 = .ok (.getfield 57, 3) := by decide +kernel
theorem dX8_begin_63 : decode cX8_begin 63 = .ok (.iconst 0, 1) := by decide +kernel
theorem dX8_begin_64 : decode cX8_begin 64 = .ok (.aload_n 0, 1) := by decide +kernel
theorem dX8_begin_65 : decode cX8_begin 65 = .ok (.getfield 18, 3) := by decide +kernel
theorem dX8_begin_68 : decode cX8_begin 68 = .ok (.iconst 0, 1) := by decide +kernel
theorem dX8_begin_69 : decode cX8_begin 69 = .ok (.bipush 6, 2) := by decide +kernel
theorem dX8_begin_71 : decode cX8_begin 71 = .ok (.invokestatic 47, 3) := by decide +kernel
theorem dX8_begin_74 : decode cX8_begin 74 = .ok (.iconst 0, 1) := by decide +kernel
theorem dX8_begin_75 : decode cX8_begin 75 = .ok (.istore_n 3, 1) := by decide +kernel
theorem dX8_begin_76 : decode cX8_begin 76 = .ok (.iload_n 3, 1) := by decide +kernel
theorem dX8_begin_77 : decode cX8_begin 77 = .ok (.bipush 6, 2) := by decide +kernel
theorem dX8_begin_79 : decode cX8_begin 79 = .ok (.if_icmp .ge 16, 3) := by decide +kernel
theorem dX8_begin_82 : decode cX8_begin 82 = .ok (.aload_n 0, 1) := by decide +kernel
theorem dX8_begin_83 : decode cX8_begin 83 = .ok (.getfield 24, 3) := by decide +kernel
theorem dX8_begin_86 : decode cX8_begin 86 = .ok (.iload_n 3, 1) := by decide +kernel
theorem dX8_begin_87 : decode cX8_begin 87 = .ok (.iconst 0, 1) := by decide +kernel
theorem dX8_begin_88 : decode cX8_begin 88 = .ok (.iastore, 1) := by decide +kernel
theorem dX8_begin_89 : decode cX8_begin 89 = .ok (.iinc 3 1, 3) := by decide +kernel
theorem dX8_begin_92 : decode cX8_begin 92 = .ok (.goto (-16), 3) := by decide +kernel
theorem dX8_begin_95 : decode cX8_begin 95 = .ok (.iconst 0, 1) := by decide +kernel
theorem dX8_begin_96 : decode cX8_begin 96 = .ok (.istore_n 3, 1) := by decide +kernel
theorem dX8_begin_97 : decode cX8_begin 97 = .ok (.iload_n 3, 1) := by decide +kernel
theorem dX8_begin_98 : decode cX8_begin 98 = .ok (.aload_n 0, 1) := by decide +kernel
theorem dX8_begin_99 : decode cX8_begin 99 = .ok (.getfield 36, 3) := by decide +kernel
theorem dX8_begin_102 : decode cX8_begin 102 = .ok (.getfield 58, 3) := by decide +kernel
theorem dX8_begin_105 : decode cX8_begin 105 = .ok (.if_icmp .ge 74, 3) := by decide +kernel
theorem dX8_begin_108 : decode cX8_begin 108 = .ok (.aload_n 0, 1) := by decide +kernel
theorem dX8_begin_109 : decode cX8_begin 109 = .ok (.iload_n 3, 1) := by decide +kernel
theorem dX8_begin_110 : decode cX8_begin 110 = .ok (.iconst 0, 1) := by decide +kernel
theorem dX8_begin_111 : decode cX8_begin 111 = .ok (.invokevirtual 63, 3) := by decide +kernel
theorem dX8_begin_114 : decode cX8_begin 114 = .ok (.aload_n 0, 1) := by decide +kernel
theorem dX8_begin_115 : decode cX8_begin 115 = .ok (.getfield 36, 3) := by decide +kernel
theorem dX8_begin_118 : decode cX8_begin 118 = .ok (.getfield 67, 3) := by decide +kernel
theorem dX8_begin_121 : decode cX8_begin 121 = .ok (.invokevirtual 71, 3) := by decide +kernel
theorem dX8_begin_124 : decode cX8_begin 124 = .ok (.ifCond .eq 20, 3) := by decide +kernel
theorem dX8_begin_127 : decode cX8_begin 127 = .ok (.aload_n 0, 1) := by decide +kernel
theorem dX8_begin_128 : decode cX8_begin 128 = .ok (.getfield 36, 3) := by decide +kernel
theorem dX8_begin_131 : decode cX8_begin 131 = .ok (.getfield 67, 3) := by decide +kernel
theorem dX8_begin_134 : decode cX8_begin 134 = .ok (.aload_n 0, 1) := by decide +kernel
theorem dX8_begin_135 : decode cX8_begin 135 = .ok (.getfield 29, 3) := by decide +kernel
theorem dX8_begin_138 : decode cX8_begin 138 = .ok (.invokevirtual 75, 3) := by decide +kernel
theorem dX8_begin_141 : decode cX8_begin 141 = .ok (.goto 4, 3) := by decide +kernel
theorem dX8_begin_144 : decode cX8_begin 144 = .ok (.iconst 5, 1) := by decide +kernel
theorem dX8_begin_145 : decode cX8_begin 145 = .ok (.istore 4, 2) := by decide +kernel
theorem dX8_begin_147 : decode cX8_begin 147 = .ok (.aload_n 0, 1) := by decide +kernel
theorem dX8_begin_148 : decode cX8_begin 148 = .ok (.getfield 9, 3) := by decide +kernel
theorem dX8_begin_151 : decode cX8_begin 151 = .ok (.iload_n 3, 1) := by decide +kernel
theorem dX8_begin_152 : decode cX8_begin 152 = .ok (.bipush 99, 2) := by decide +kernel
theorem dX8_begin_154 : decode cX8_begin 154 = .ok (.aload_n 0, 1) := by decide +kernel
theorem dX8_begin_155 : decode cX8_begin 155 = .ok (.getfield 9, 3) := by decide +kernel
theorem dX8_begin_158 : decode cX8_begin 158 = .ok (.iload_n 3, 1) := by decide +kernel
theorem dX8_begin_159 : decode cX8_begin 159 = .ok (.iaload, 1) := by decide +kernel
theorem dX8_begin_160 : decode cX8_begin 160 = .ok (.iconst 0, 1) := by decide +kernel
theorem dX8_begin_161 : decode cX8_begin 161 = .ok (.iload 4, 2) := by decide +kernel
theorem dX8_begin_163 : decode cX8_begin 163 = .ok (.invokestatic 79, 3) := by decide +kernel
theorem dX8_begin_166 : decode cX8_begin 166 = .ok (.iload_n 2, 1) := by decide +kernel
theorem dX8_begin_167 : decode cX8_begin 167 = .ok (.imul, 1) := by decide +kernel
theorem dX8_begin_168 : decode cX8_begin 168 = .ok (.iadd, 1) := by decide +kernel
theorem dX8_begin_169 : decode cX8_begin 169 = .ok (.invokestatic 85, 3) := by decide +kernel
theorem dX8_begin_172 : decode cX8_begin 172 = .ok (.iastore, 1) := by decide +kernel
theorem dX8_begin_173 : decode cX8_begin 173 = .ok (.iinc 3 1, 3) := by decide +kernel
theorem dX8_begin_176 : decode cX8_begin 176 = .ok (.goto (-79), 3) := by decide +kernel
theorem dX8_begin_179 : decode cX8_begin 179 = .ok (.return_, 1) := by decide +kernel
theorem dX8_copyOf_0 : decode cX8_copyOf 0 = .ok (.aload_n 0, 1) := by decide +kernel
theorem dX8_copyOf_1 : decode cX8_copyOf 1 = .ok (.aload_n 1, 1) := by decide +kernel
theorem dX8_copyOf_2 : decode cX8_copyOf 2 = .ok (.getfield 45, 3) := by decide +kernel
theorem dX8_copyOf_5 : decode cX8_copyOf 5 = .ok (.putfield 45, 3) := by decide +kernel
theorem dX8_copyOf_8 : decode cX8_copyOf 8 = .ok (.aload_n 0, 1) := by decide +kernel
theorem dX8_copyOf_9 : decode cX8_copyOf 9 = .ok (.aload_n 1, 1) := by decide +kernel
theorem dX8_copyOf_10 : decode cX8_copyOf 10 = .ok (.getfield 32, 3) := by decide +kernel
theorem dX8_copyOf_13 : decode cX8_copyOf 13 = .ok (.putfield 32, 3) := by decide +kernel
theorem dX8_copyOf_16 : decode cX8_copyOf 16 = .ok (.aload_n 1, 1) := by decide +kernel
theorem dX8_copyOf_17 : decode cX8_copyOf 17 = .ok (.getfield 9, 3) := by decide +kernel
theorem dX8_copyOf_20 : decode cX8_copyOf 20 = .ok (.iconst 0, 1) := by decide +kernel
theorem dX8_copyOf_21 : decode cX8_copyOf 21 = .ok (.aload_n 0, 1) := by decide +kernel
theorem dX8_copyOf_22 : decode cX8_copyOf 22 = .ok (.getfield 9, 3) := by decide +kernel
theorem dX8_copyOf_25 : decode cX8_copyOf 25 = .ok (.iconst 0, 1) := by decide +kernel
theorem dX8_copyOf_26 : decode cX8_copyOf 26 = .ok (.bipush 64, 2) := by decide +kernel
theorem dX8_copyOf_28 : decode cX8_copyOf 28 = .ok (.invokestatic 47, 3) := by decide +kernel
theorem dX8_copyOf_31 : decode cX8_copyOf 31 = .ok (.aload_n 1, 1) := by decide +kernel
theorem dX8_copyOf_32 : decode cX8_copyOf 32 = .ok (.getfield 15, 3) := by decide +kernel
theorem dX8_copyOf_35 : decode cX8_copyOf 35 = .ok (.iconst 0, 1) := by decide +kernel
theorem dX8_copyOf_36 : decode cX8_copyOf 36 = .ok (.aload_n 0, 1) := by decide +kernel
theorem dX8_copyOf_37 : decode cX8_copyOf 37 = .ok (.getfield 15, 3) := by decide +kernel
theorem dX8_copyOf_40 : decode cX8_copyOf 40 = .ok (.iconst 0, 1) := by decide +kernel
theorem dX8_copyOf_41 : decode cX8_copyOf 41 = .ok (.bipush 6, 2) := by decide +kernel
theorem dX8_copyOf_43 : decode cX8_copyOf 43 = .ok (.invokestatic 47, 3) := by decide +kernel
theorem dX8_copyOf_46 : decode cX8_copyOf 46 = .ok (.aload_n 1, 1) := by decide +kernel
theorem dX8_copyOf_47 : decode cX8_copyOf 47 = .ok (.getfield 18, 3) := by decide +kernel
theorem dX8_copyOf_50 : decode cX8_copyOf 50 = .ok (.iconst 0, 1) := by decide +kernel
theorem dX8_copyOf_51 : decode cX8_copyOf 51 = .ok (.aload_n 0, 1) := by decide +kernel
theorem dX8_copyOf_52 : decode cX8_copyOf 52 = .ok (.getfield 18, 3) := by decide +kernel
theorem dX8_copyOf_55 : decode cX8_copyOf 55 = .ok (.iconst 0, 1) := by decide +kernel
theorem dX8_copyOf_56 : decode cX8_copyOf 56 = .ok (.bipush 6, 2) := by decide +kernel
theorem dX8_copyOf_58 : decode cX8_copyOf 58 = .ok (.invokestatic 47, 3) := by decide +kernel
theorem dX8_copyOf_61 : decode cX8_copyOf 61 = .ok (.aload_n 1, 1) := by decide +kernel
theorem dX8_copyOf_62 : decode cX8_copyOf 62 = .ok (.getfield 21, 3) := by decide +kernel
theorem dX8_copyOf_65 : decode cX8_copyOf 65 = .ok (.iconst 0, 1) := by decide +kernel
theorem dX8_copyOf_66 : decode cX8_copyOf 66 = .ok (.aload_n 0, 1) := by decide +kernel
theorem dX8_copyOf_67 : decode cX8_copyOf 67 = .ok (.getfield 21, 3) := by decide +kernel
theorem dX8_copyOf_70 : decode cX8_copyOf 70 = .ok (.iconst 0, 1) := by decide +kernel
theorem dX8_copyOf_71 : decode cX8_copyOf 71 = .ok (.bipush 6, 2) := by decide +kernel
theorem dX8_copyOf_73 : decode cX8_copyOf 73 = .ok (.invokestatic 47, 3) := by decide +kernel
theorem dX8_copyOf_76 : decode cX8_copyOf 76 = .ok (.aload_n 1, 1) := by decide +kernel
theorem dX8_copyOf_77 : decode cX8_copyOf 77 = .ok (.getfield 24, 3) := by decide +kernel
theorem dX8_copyOf_80 : decode cX8_copyOf 80 = .ok (.iconst 0, 1) := by decide +kernel
theorem dX8_copyOf_81 : decode cX8_copyOf 81 = .ok (.aload_n 0, 1) := by decide +kernel
theorem dX8_copyOf_82 : decode cX8_copyOf 82 = .ok (.getfield 24, 3) := by decide +kernel
theorem dX8_copyOf_85 : decode cX8_copyOf 85 = .ok (.iconst 0, 1) := by decide +kernel
theorem dX8_copyOf_86 : decode cX8_copyOf 86 = .ok (.bipush 6, 2) := by decide +kernel
theorem dX8_copyOf_88 : decode cX8_copyOf 88 = .ok (.invokestatic 47, 3) := by decide +kernel
theorem dX8_copyOf_91 : decode cX8_copyOf 91 = .ok (.return_, 1) := by decide +kernel
theorem dX8_through_0 : decode cX8_through 0 = .ok (.iload_n 1, 1) := by decide +kernel
theorem dX8_through_1 : decode cX8_through 1 = .ok (.istore_n 3, 1) := by decide +kernel
theorem dX8_through_2 : decode cX8_through 2 = .ok (.iload_n 3, 1) := by decide +kernel
theorem dX8_through_3 : decode cX8_through 3 = .ok (.iload_n 2, 1) := by decide +kernel
theorem dX8_through_4 : decode cX8_through 4 = .ok (.if_icmp .ge 27, 3) := by decide +kernel
theorem dX8_through_7 : decode cX8_through 7 = .ok (.aload_n 0, 1) := by decide +kernel
theorem dX8_through_8 : decode cX8_through 8 = .ok (.iconst 0, 1) := by decide +kernel
theorem dX8_through_9 : decode cX8_through 9 = .ok (.aload_n 0, 1) := by decide +kernel
theorem dX8_through_10 : decode cX8_through 10 = .ok (.getfield 36, 3) := by decide +kernel
theorem dX8_through_13 : decode cX8_through 13 = .ok (.getfield 88, 3) := by decide +kernel
theorem dX8_through_16 : decode cX8_through 16 = .ok (.iload_n 3, 1) := by decide +kernel
theorem dX8_through_17 : decode cX8_through 17 = .ok (.invokevirtual 91, 3) := by decide +kernel
theorem dX8_through_20 : decode cX8_through 20 = .ok (.aload_n 0, 1) := by decide +kernel
theorem dX8_through_21 : decode cX8_through 21 = .ok (.iload_n 3, 1) := by decide +kernel
theorem dX8_through_22 : decode cX8_through 22 = .ok (.invokevirtual 95, 3) := by decide +kernel
theorem dX8_through_25 : decode cX8_through 25 = .ok (.iinc 3 1, 3) := by decide +kernel
theorem dX8_through_28 : decode cX8_through 28 = .ok (.goto (-26), 3) := by decide +kernel
theorem dX8_through_31 : decode cX8_through 31 = .ok (.return_, 1) := by decide +kernel
theorem dX8_goAll_0 : decode cX8_goAll 0 = .ok (.iload_n 1, 1) := by decide +kernel
theorem dX8_goAll_1 : decode cX8_goAll 1 = .ok (.istore 4, 2) := by decide +kernel
theorem dX8_goAll_3 : decode cX8_goAll 3 = .ok (.iload 4, 2) := by decide +kernel
theorem dX8_goAll_5 : decode cX8_goAll 5 = .ok (.iload_n 2, 1) := by decide +kernel
theorem dX8_goAll_6 : decode cX8_goAll 6 = .ok (.if_icmp .ge 51, 3) := by decide +kernel
theorem dX8_goAll_9 : decode cX8_goAll 9 = .ok (.aload_n 0, 1) := by decide +kernel
theorem dX8_goAll_10 : decode cX8_goAll 10 = .ok (.getfield 15, 3) := by decide +kernel
theorem dX8_goAll_13 : decode cX8_goAll 13 = .ok (.iload 4, 2) := by decide +kernel
theorem dX8_goAll_15 : decode cX8_goAll 15 = .ok (.iaload, 1) := by decide +kernel
theorem dX8_goAll_16 : decode cX8_goAll 16 = .ok (.iload_n 3, 1) := by decide +kernel
theorem dX8_goAll_17 : decode cX8_goAll 17 = .ok (.if_icmp .gt 34, 3) := by decide +kernel
theorem dX8_goAll_20 : decode cX8_goAll 20 = .ok (.aload_n 0, 1) := by decide +kernel
theorem dX8_goAll_21 : decode cX8_goAll 21 = .ok (.getfield 32, 3) := by decide +kernel
theorem dX8_goAll_24 : decode cX8_goAll 24 = .ok (.iload 4, 2) := by decide +kernel
theorem dX8_goAll_26 : decode cX8_goAll 26 = .ok (.ishr, 1) := by decide +kernel
theorem dX8_goAll_27 : decode cX8_goAll 27 = .ok (.iconst 1, 1) := by decide +kernel
theorem dX8_goAll_28 : decode cX8_goAll 28 = .ok (.iand, 1) := by decide +kernel
theorem dX8_goAll_29 : decode cX8_goAll 29 = .ok (.iconst 1, 1) := by decide +kernel
theorem dX8_goAll_30 : decode cX8_goAll 30 = .ok (.if_icmp .ne 21, 3) := by decide +kernel
theorem dX8_goAll_33 : decode cX8_goAll 33 = .ok (.aload_n 0, 1) := by decide +kernel
theorem dX8_goAll_34 : decode cX8_goAll 34 = .ok (.iload 4, 2) := by decide +kernel
theorem dX8_goAll_36 : decode cX8_goAll 36 = .ok (.aload_n 0, 1) := by decide +kernel
theorem dX8_goAll_37 : decode cX8_goAll 37 = .ok (.aload_n 0, 1) := by decide +kernel
theorem dX8_goAll_38 : decode cX8_goAll 38 = .ok (.getfield 21, 3) := by decide +kernel
theorem dX8_goAll_41 : decode cX8_goAll 41 = .ok (.iload 4, 2) := by decide +kernel
theorem dX8_goAll_43 : decode cX8_goAll 43 = .ok (.iaload, 1) := by decide +kernel
theorem dX8_goAll_44 : decode cX8_goAll 44 = .ok (.invokevirtual 99, 3) := by decide +kernel
theorem dX8_goAll_47 : decode cX8_goAll 47 = .ok (.iload_n 3, 1) := by decide +kernel
theorem dX8_goAll_48 : decode cX8_goAll 48 = .ok (.invokevirtual 103, 3) := by decide +kernel
theorem dX8_goAll_51 : decode cX8_goAll 51 = .ok (.iinc 4 1, 3) := by decide +kernel
theorem dX8_goAll_54 : decode cX8_goAll 54 = .ok (.goto (-51), 3) := by decide +kernel
theorem dX8_goAll_57 : decode cX8_goAll 57 = .ok (.return_, 1) := by decide +kernel
theorem dX8_go_0 : decode cX8_go 0 = .ok (.aload_n 0, 1) := by decide +kernel
theorem dX8_go_1 : decode cX8_go 1 = .ok (.getfield 21, 3) := by decide +kernel
theorem dX8_go_4 : decode cX8_go 4 = .ok (.iload_n 1, 1) := by decide +kernel
theorem dX8_go_5 : decode cX8_go 5 = .ok (.iload_n 2, 1) := by decide +kernel
theorem dX8_go_6 : decode cX8_go 6 = .ok (.iastore, 1) := by decide +kernel
theorem dX8_go_7 : decode cX8_go 7 = .ok (.aload_n 0, 1) := by decide +kernel
theorem dX8_go_8 : decode cX8_go 8 = .ok (.getfield 9, 3) := by decide +kernel
theorem dX8_go_11 : decode cX8_go 11 = .ok (.iload_n 2, 1) := by decide +kernel
theorem dX8_go_12 : decode cX8_go 12 = .ok (.iaload, 1) := by decide +kernel
theorem dX8_go_13 : decode cX8_go 13 = .ok (.aload_n 0, 1) := by decide +kernel
theorem dX8_go_14 : decode cX8_go 14 = .ok (.getfield 18, 3) := by decide +kernel
theorem dX8_go_17 : decode cX8_go 17 = .ok (.iload_n 1, 1) := by decide +kernel
theorem dX8_go_18 : decode cX8_go 18 = .ok (.iaload, 1) := by decide +kernel
theorem dX8_go_19 : decode cX8_go 19 = .ok (.aload_n 0, 1) := by decide +kernel
theorem dX8_go_20 : decode cX8_go 20 = .ok (.getfield 24, 3) := by decide +kernel
theorem dX8_go_23 : decode cX8_go 23 = .ok (.iload_n 1, 1) := by decide +kernel
theorem dX8_go_24 : decode cX8_go 24 = .ok (.iaload, 1) := by decide +kernel
theorem dX8_go_25 : decode cX8_go 25 = .ok (.isub, 1) := by decide +kernel
theorem dX8_go_26 : decode cX8_go 26 = .ok (.invokestatic 85, 3) := by decide +kernel
theorem dX8_go_29 : decode cX8_go 29 = .ok (.istore 4, 2) := by decide +kernel
theorem dX8_go_31 : decode cX8_go 31 = .ok (.iload 4, 2) := by decide +kernel
theorem dX8_go_33 : decode cX8_go 33 = .ok (.ifCond .gt 4, 3) := by decide +kernel
theorem dX8_go_36 : decode cX8_go 36 = .ok (.return_, 1) := by decide +kernel
theorem dX8_go_37 : decode cX8_go 37 = .ok (.bipush 9, 2) := by decide +kernel
theorem dX8_go_39 : decode cX8_go 39 = .ok (.istore 5, 2) := by decide +kernel
theorem dX8_go_41 : decode cX8_go 41 = .ok (.aload_n 0, 1) := by decide +kernel
theorem dX8_go_42 : decode cX8_go 42 = .ok (.getfield 36, 3) := by decide +kernel
theorem dX8_go_45 : decode cX8_go 45 = .ok (.getfield 106, 3) := by decide +kernel
theorem dX8_go_48 : decode cX8_go 48 = .ok (.invokevirtual 71, 3) := by decide +kernel
theorem dX8_go_51 : decode cX8_go 51 = .ok (.ifCond .eq 50, 3) := by decide +kernel
theorem dX8_go_54 : decode cX8_go 54 = .ok (.aload_n 0, 1) := by decide +kernel
theorem dX8_go_55 : decode cX8_go 55 = .ok (.iload_n 2, 1) := by decide +kernel
theorem dX8_go_56 : decode cX8_go 56 = .ok (.iload_n 3, 1) := by decide +kernel
theorem dX8_go_57 : decode cX8_go 57 = .ok (.invokevirtual 63, 3) := by decide +kernel
theorem dX8_go_60 : decode cX8_go 60 = .ok (.aload_n 0, 1) := by decide +kernel
theorem dX8_go_61 : decode cX8_go 61 = .ok (.getfield 29, 3) := by decide +kernel
theorem dX8_go_64 : decode cX8_go 64 = .ok (.iconst 5, 1) := by decide +kernel
theorem dX8_go_65 : decode cX8_go 65 = .ok (.aload_n 0, 1) := by decide +kernel
theorem dX8_go_66 : decode cX8_go 66 = .ok (.getfield 24, 3) := by decide +kernel
theorem dX8_go_69 : decode cX8_go 69 = .ok (.iload_n 1, 1) := by decide +kernel
theorem dX8_go_70 : decode cX8_go 70 = .ok (.iaload, 1) := by decide +kernel
theorem dX8_go_71 : decode cX8_go 71 = .ok (.iastore, 1) := by decide +kernel
theorem dX8_go_72 : decode cX8_go 72 = .ok (.aload_n 0, 1) := by decide +kernel
theorem dX8_go_73 : decode cX8_go 73 = .ok (.getfield 29, 3) := by decide +kernel
theorem dX8_go_76 : decode cX8_go 76 = .ok (.bipush 6, 2) := by decide +kernel
theorem dX8_go_78 : decode cX8_go 78 = .ok (.aload_n 0, 1) := by decide +kernel
theorem dX8_go_79 : decode cX8_go 79 = .ok (.getfield 18, 3) := by decide +kernel
theorem dX8_go_82 : decode cX8_go 82 = .ok (.iload_n 1, 1) := by decide +kernel
theorem dX8_go_83 : decode cX8_go 83 = .ok (.iaload, 1) := by decide +kernel
theorem dX8_go_84 : decode cX8_go 84 = .ok (.iastore, 1) := by decide +kernel
theorem dX8_go_85 : decode cX8_go 85 = .ok (.aload_n 0, 1) := by decide +kernel
theorem dX8_go_86 : decode cX8_go 86 = .ok (.getfield 36, 3) := by decide +kernel
theorem dX8_go_89 : decode cX8_go 89 = .ok (.getfield 106, 3) := by decide +kernel
theorem dX8_go_92 : decode cX8_go 92 = .ok (.aload_n 0, 1) := by decide +kernel
theorem dX8_go_93 : decode cX8_go 93 = .ok (.getfield 29, 3) := by decide +kernel
theorem dX8_go_96 : decode cX8_go 96 = .ok (.invokevirtual 75, 3) := by decide +kernel
theorem dX8_go_99 : decode cX8_go 99 = .ok (.istore 5, 2) := by decide +kernel
theorem dX8_go_101 : decode cX8_go 101 = .ok (.iconst 0, 1) := by decide +kernel
theorem dX8_go_102 : decode cX8_go 102 = .ok (.iload 4, 2) := by decide +kernel
theorem dX8_go_104 : decode cX8_go 104 = .ok (.iload 5, 2) := by decide +kernel
theorem dX8_go_106 : decode cX8_go 106 = .ok (.invokestatic 85, 3) := by decide +kernel
theorem dX8_go_109 : decode cX8_go 109 = .ok (.invokestatic 79, 3) := by decide +kernel
theorem dX8_go_112 : decode cX8_go 112 = .ok (.istore 6, 2) := by decide +kernel
theorem dX8_go_114 : decode cX8_go 114 = .ok (.aload_n 0, 1) := by decide +kernel
theorem dX8_go_115 : decode cX8_go 115 = .ok (.getfield 24, 3) := by decide +kernel
theorem dX8_go_118 : decode cX8_go 118 = .ok (.iload_n 1, 1) := by decide +kernel
theorem dX8_go_119 : decode cX8_go 119 = .ok (.dup2, 1) := by decide +kernel
theorem dX8_go_120 : decode cX8_go 120 = .ok (.iaload, 1) := by decide +kernel
theorem dX8_go_121 : decode cX8_go 121 = .ok (.iload 6, 2) := by decide +kernel
theorem dX8_go_123 : decode cX8_go 123 = .ok (.iadd, 1) := by decide +kernel
theorem dX8_go_124 : decode cX8_go 124 = .ok (.iastore, 1) := by decide +kernel
theorem dX8_go_125 : decode cX8_go 125 = .ok (.aload_n 0, 1) := by decide +kernel
theorem dX8_go_126 : decode cX8_go 126 = .ok (.getfield 9, 3) := by decide +kernel
theorem dX8_go_129 : decode cX8_go 129 = .ok (.iload_n 2, 1) := by decide +kernel
theorem dX8_go_130 : decode cX8_go 130 = .ok (.dup2, 1) := by decide +kernel
theorem dX8_go_131 : decode cX8_go 131 = .ok (.iaload, 1) := by decide +kernel
theorem dX8_go_132 : decode cX8_go 132 = .ok (.iload 6, 2) := by decide +kernel
theorem dX8_go_134 : decode cX8_go 134 = .ok (.isub, 1) := by decide +kernel
theorem dX8_go_135 : decode cX8_go 135 = .ok (.iastore, 1) := by decide +kernel
theorem dX8_go_136 : decode cX8_go 136 = .ok (.return_, 1) := by decide +kernel
theorem dX8_wettest_0 : decode cX8_wettest 0 = .ok (.iload_n 1, 1) := by decide +kernel
theorem dX8_wettest_1 : decode cX8_wettest 1 = .ok (.istore_n 2, 1) := by decide +kernel
theorem dX8_wettest_2 : decode cX8_wettest 2 = .ok (.iconst 1, 1) := by decide +kernel
theorem dX8_wettest_3 : decode cX8_wettest 3 = .ok (.istore_n 3, 1) := by decide +kernel
theorem dX8_wettest_4 : decode cX8_wettest 4 = .ok (.iload_n 3, 1) := by decide +kernel
theorem dX8_wettest_5 : decode cX8_wettest 5 = .ok (.iconst 5, 1) := by decide +kernel
theorem dX8_wettest_6 : decode cX8_wettest 6 = .ok (.if_icmp .ge 45, 3) := by decide +kernel
theorem dX8_wettest_9 : decode cX8_wettest 9 = .ok (.aload_n 0, 1) := by decide +kernel
theorem dX8_wettest_10 : decode cX8_wettest 10 = .ok (.getfield 36, 3) := by decide +kernel
theorem dX8_wettest_13 : decode cX8_wettest 13 = .ok (.iload_n 1, 1) := by decide +kernel
theorem dX8_wettest_14 : decode cX8_wettest 14 = .ok (.iload_n 3, 1) := by decide +kernel
theorem dX8_wettest_15 : decode cX8_wettest 15 = .ok (.invokevirtual 109, 3) := by decide +kernel
theorem dX8_wettest_18 : decode cX8_wettest 18 = .ok (.istore 4, 2) := by decide +kernel
theorem dX8_wettest_20 : decode cX8_wettest 20 = .ok (.iload 4, 2) := by decide +kernel
theorem dX8_wettest_22 : decode cX8_wettest 22 = .ok (.iconst (-1), 1) := by decide +kernel
theorem dX8_wettest_23 : decode cX8_wettest 23 = .ok (.if_icmp .eq 22, 3) := by decide +kernel
theorem dX8_wettest_26 : decode cX8_wettest 26 = .ok (.aload_n 0, 1) := by decide +kernel
theorem dX8_wettest_27 : decode cX8_wettest 27 = .ok (.getfield 9, 3) := by decide +kernel
theorem dX8_wettest_30 : decode cX8_wettest 30 = .ok (.iload 4, 2) := by decide +kernel
theorem dX8_wettest_32 : decode cX8_wettest 32 = .ok (.iaload, 1) := by decide +kernel
theorem dX8_wettest_33 : decode cX8_wettest 33 = .ok (.aload_n 0, 1) := by decide +kernel
theorem dX8_wettest_34 : decode cX8_wettest 34 = .ok (.getfield 9, 3) := by decide +kernel
theorem dX8_wettest_37 : decode cX8_wettest 37 = .ok (.iload_n 2, 1) := by decide +kernel
theorem dX8_wettest_38 : decode cX8_wettest 38 = .ok (.iaload, 1) := by decide +kernel
theorem dX8_wettest_39 : decode cX8_wettest 39 = .ok (.if_icmp .le 6, 3) := by decide +kernel
theorem dX8_wettest_42 : decode cX8_wettest 42 = .ok (.iload 4, 2) := by decide +kernel
theorem dX8_wettest_44 : decode cX8_wettest 44 = .ok (.istore_n 2, 1) := by decide +kernel
theorem dX8_wettest_45 : decode cX8_wettest 45 = .ok (.iinc 3 1, 3) := by decide +kernel
theorem dX8_wettest_48 : decode cX8_wettest 48 = .ok (.goto (-44), 3) := by decide +kernel
theorem dX8_wettest_51 : decode cX8_wettest 51 = .ok (.iload_n 2, 1) := by decide +kernel
theorem dX8_wettest_52 : decode cX8_wettest 52 = .ok (.ireturn, 1) := by decide +kernel
theorem dX8_dryUp_0 : decode cX8_dryUp 0 = .ok (.iconst 0, 1) := by decide +kernel
theorem dX8_dryUp_1 : decode cX8_dryUp 1 = .ok (.istore_n 2, 1) := by decide +kernel
theorem dX8_dryUp_2 : decode cX8_dryUp 2 = .ok (.iload_n 2, 1) := by decide +kernel
theorem dX8_dryUp_3 : decode cX8_dryUp 3 = .ok (.aload_n 0, 1) := by decide +kernel
theorem dX8_dryUp_4 : decode cX8_dryUp 4 = .ok (.getfield 36, 3) := by decide +kernel
theorem dX8_dryUp_7 : decode cX8_dryUp 7 = .ok (.getfield 58, 3) := by decide +kernel
theorem dX8_dryUp_10 : decode cX8_dryUp 10 = .ok (.if_icmp .ge 79, 3) := by decide +kernel
theorem dX8_dryUp_13 : decode cX8_dryUp 13 = .ok (.aload_n 0, 1) := by decide +kernel
theorem dX8_dryUp_14 : decode cX8_dryUp 14 = .ok (.getfield 9, 3) := by decide +kernel
theorem dX8_dryUp_17 : decode cX8_dryUp 17 = .ok (.iload_n 2, 1) := by decide +kernel
theorem dX8_dryUp_18 : decode cX8_dryUp 18 = .ok (.iaload, 1) := by decide +kernel
theorem dX8_dryUp_19 : decode cX8_dryUp 19 = .ok (.ifCond .le 64, 3) := by decide +kernel
theorem dX8_dryUp_22 : decode cX8_dryUp 22 = .ok (.aload_n 0, 1) := by decide +kernel
theorem dX8_dryUp_23 : decode cX8_dryUp 23 = .ok (.iload_n 2, 1) := by decide +kernel
theorem dX8_dryUp_24 : decode cX8_dryUp 24 = .ok (.iload_n 1, 1) := by decide +kernel
theorem dX8_dryUp_25 : decode cX8_dryUp 25 = .ok (.invokevirtual 63, 3) := by decide +kernel
theorem dX8_dryUp_28 : decode cX8_dryUp 28 = .ok (.aload_n 0, 1) := by decide +kernel
theorem dX8_dryUp_29 : decode cX8_dryUp 29 = .ok (.getfield 36, 3) := by decide +kernel
theorem dX8_dryUp_32 : decode cX8_dryUp 32 = .ok (.getfield 112, 3) := by decide +kernel
theorem dX8_dryUp_35 : decode cX8_dryUp 35 = .ok (.invokevirtual 71, 3) := by decide +kernel
theorem dX8_dryUp_38 : decode cX8_dryUp 38 = .ok (.ifCond .eq 20, 3) := by decide +kernel
theorem dX8_dryUp_41 : decode cX8_dryUp 41 = .ok (.aload_n 0, 1) := by decide +kernel
theorem dX8_dryUp_42 : decode cX8_dryUp 42 = .ok (.getfield 36, 3) := by decide +kernel
theorem dX8_dryUp_45 : decode cX8_dryUp 45 = .ok (.getfield 112, 3) := by decide +kernel
theorem dX8_dryUp_48 : decode cX8_dryUp 48 = .ok (.aload_n 0, 1) := by decide +kernel
theorem dX8_dryUp_49 : decode cX8_dryUp 49 = .ok (.getfield 29, 3) := by decide +kernel
theorem dX8_dryUp_52 : decode cX8_dryUp 52 = .ok (.invokevirtual 75, 3) := by decide +kernel
theorem dX8_dryUp_55 : decode cX8_dryUp 55 = .ok (.goto 4, 3) := by decide +kernel
theorem dX8_dryUp_58 : decode cX8_dryUp 58 = .ok (.iconst 1, 1) := by decide +kernel
theorem dX8_dryUp_59 : decode cX8_dryUp 59 = .ok (.istore_n 3, 1) := by decide +kernel
theorem dX8_dryUp_60 : decode cX8_dryUp 60 = .ok (.aload_n 0, 1) := by decide +kernel
theorem dX8_dryUp_61 : decode cX8_dryUp 61 = .ok (.getfield 9, 3) := by decide +kernel
theorem dX8_dryUp_64 : decode cX8_dryUp 64 = .ok (.iload_n 2, 1) := by decide +kernel
theorem dX8_dryUp_65 : decode cX8_dryUp 65 = .ok (.dup2, 1) := by decide +kernel
theorem dX8_dryUp_66 : decode cX8_dryUp 66 = .ok (.iaload, 1) := by decide +kernel
theorem dX8_dryUp_67 : decode cX8_dryUp 67 = .ok (.iconst 0, 1) := by decide +kernel
theorem dX8_dryUp_68 : decode cX8_dryUp 68 = .ok (.aload_n 0, 1) := by decide +kernel
theorem dX8_dryUp_69 : decode cX8_dryUp 69 = .ok (.getfield 9, 3) := by decide +kernel
theorem dX8_dryUp_72 : decode cX8_dryUp 72 = .ok (.iload_n 2, 1) := by decide +kernel
theorem dX8_dryUp_73 : decode cX8_dryUp 73 = .ok (.iaload, 1) := by decide +kernel
theorem dX8_dryUp_74 : decode cX8_dryUp 74 = .ok (.iload_n 3, 1) := by decide +kernel
theorem dX8_dryUp_75 : decode cX8_dryUp 75 = .ok (.invokestatic 85, 3) := by decide +kernel
theorem dX8_dryUp_78 : decode cX8_dryUp 78 = .ok (.invokestatic 79, 3) := by decide +kernel
theorem dX8_dryUp_81 : decode cX8_dryUp 81 = .ok (.isub, 1) := by decide +kernel
theorem dX8_dryUp_82 : decode cX8_dryUp 82 = .ok (.iastore, 1) := by decide +kernel
theorem dX8_dryUp_83 : decode cX8_dryUp 83 = .ok (.iinc 2 1, 3) := by decide +kernel
theorem dX8_dryUp_86 : decode cX8_dryUp 86 = .ok (.goto (-84), 3) := by decide +kernel
theorem dX8_dryUp_89 : decode cX8_dryUp 89 = .ok (.return_, 1) := by decide +kernel
theorem dX8_face_0 : decode cX8_face 0 = .ok (.aload_n 0, 1) := by decide +kernel
theorem dX8_face_1 : decode cX8_face 1 = .ok (.getfield 29, 3) := by decide +kernel
theorem dX8_face_4 : decode cX8_face 4 = .ok (.iconst 0, 1) := by decide +kernel
theorem dX8_face_5 : decode cX8_face 5 = .ok (.aload_n 0, 1) := by decide +kernel
theorem dX8_face_6 : decode cX8_face 6 = .ok (.getfield 36, 3) := by decide +kernel
theorem dX8_face_9 : decode cX8_face 9 = .ok (.iload_n 1, 1) := by decide +kernel
theorem dX8_face_10 : decode cX8_face 10 = .ok (.invokevirtual 115, 3) := by decide +kernel
theorem dX8_face_13 : decode cX8_face 13 = .ok (.iastore, 1) := by decide +kernel
theorem dX8_face_14 : decode cX8_face 14 = .ok (.aload_n 0, 1) := by decide +kernel
theorem dX8_face_15 : decode cX8_face 15 = .ok (.getfield 29, 3) := by decide +kernel
theorem dX8_face_18 : decode cX8_face 18 = .ok (.iconst 1, 1) := by decide +kernel
theorem dX8_face_19 : decode cX8_face 19 = .ok (.aload_n 0, 1) := by decide +kernel
theorem dX8_face_20 : decode cX8_face 20 = .ok (.getfield 36, 3) := by decide +kernel
theorem dX8_face_23 : decode cX8_face 23 = .ok (.iload_n 1, 1) := by decide +kernel
theorem dX8_face_24 : decode cX8_face 24 = .ok (.invokevirtual 118, 3) := by decide +kernel
theorem dX8_face_27 : decode cX8_face 27 = .ok (.iastore, 1) := by decide +kernel
theorem dX8_face_28 : decode cX8_face 28 = .ok (.aload_n 0, 1) := by decide +kernel
theorem dX8_face_29 : decode cX8_face 29 = .ok (.getfield 29, 3) := by decide +kernel
theorem dX8_face_32 : decode cX8_face 32 = .ok (.iconst 2, 1) := by decide +kernel
theorem dX8_face_33 : decode cX8_face 33 = .ok (.aload_n 0, 1) := by decide +kernel
theorem dX8_face_34 : decode cX8_face 34 = .ok (.getfield 9, 3) := by decide +kernel
theorem dX8_face_37 : decode cX8_face 37 = .ok (.iload_n 1, 1) := by decide +kernel
theorem dX8_face_38 : decode cX8_face 38 = .ok (.iaload, 1) := by decide +kernel
theorem dX8_face_39 : decode cX8_face 39 = .ok (.iastore, 1) := by decide +kernel
theorem dX8_face_40 : decode cX8_face 40 = .ok (.aload_n 0, 1) := by decide +kernel
theorem dX8_face_41 : decode cX8_face 41 = .ok (.getfield 29, 3) := by decide +kernel
theorem dX8_face_44 : decode cX8_face 44 = .ok (.iconst 3, 1) := by decide +kernel
theorem dX8_face_45 : decode cX8_face 45 = .ok (.aload_n 0, 1) := by decide +kernel
theorem dX8_face_46 : decode cX8_face 46 = .ok (.getfield 45, 3) := by decide +kernel
theorem dX8_face_49 : decode cX8_face 49 = .ok (.iastore, 1) := by decide +kernel
theorem dX8_face_50 : decode cX8_face 50 = .ok (.aload_n 0, 1) := by decide +kernel
theorem dX8_face_51 : decode cX8_face 51 = .ok (.getfield 29, 3) := by decide +kernel
theorem dX8_face_54 : decode cX8_face 54 = .ok (.iconst 4, 1) := by decide +kernel
theorem dX8_face_55 : decode cX8_face 55 = .ok (.iload_n 2, 1) := by decide +kernel
theorem dX8_face_56 : decode cX8_face 56 = .ok (.iastore, 1) := by decide +kernel
theorem dX8_face_57 : decode cX8_face 57 = .ok (.return_, 1) := by decide +kernel
theorem dX8_wrungByAll_0 : decode cX8_wrungByAll 0 = .ok (.aload_n 0, 1) := by decide +kernel
theorem dX8_wrungByAll_1 : decode cX8_wrungByAll 1 = .ok (.getfield 24, 3) := by decide +kernel
theorem dX8_wrungByAll_4 : decode cX8_wrungByAll 4 = .ok (.aload_n 0, 1) := by decide +kernel
theorem dX8_wrungByAll_5 : decode cX8_wrungByAll 5 = .ok (.getfield 36, 3) := by decide +kernel
theorem dX8_wrungByAll_8 : decode cX8_wrungByAll 8 = .ok (.getfield 88, 3) := by decide +kernel
theorem dX8_wrungByAll_11 : decode cX8_wrungByAll 11 = .ok (.invokestatic 121, 3) := by decide +kernel
theorem dX8_wrungByAll_14 : decode cX8_wrungByAll 14 = .ok (.ireturn, 1) := by decide +kernel
theorem dX8_live_0 : decode cX8_live 0 = .ok (.aload_n 0, 1) := by decide +kernel
theorem dX8_live_1 : decode cX8_live 1 = .ok (.aload_n 1, 1) := by decide +kernel
theorem dX8_live_2 : decode cX8_live 2 = .ok (.iload_n 2, 1) := by decide +kernel
theorem dX8_live_3 : decode cX8_live 3 = .ok (.ifCond .eq 7, 3) := by decide +kernel
theorem dX8_live_6 : decode cX8_live 6 = .ok (.iconst 2, 1) := by decide +kernel
theorem dX8_live_7 : decode cX8_live 7 = .ok (.goto 4, 3) := by decide +kernel
theorem dX8_live_10 : decode cX8_live 10 = .ok (.iconst 1, 1) := by decide +kernel
theorem dX8_live_11 : decode cX8_live 11 = .ok (.invokevirtual 125, 3) := by decide +kernel
theorem dX8_live_14 : decode cX8_live 14 = .ok (.aload_n 0, 1) := by decide +kernel
theorem dX8_live_15 : decode cX8_live 15 = .ok (.iconst 0, 1) := by decide +kernel
theorem dX8_live_16 : decode cX8_live 16 = .ok (.bipush 9, 2) := by decide +kernel
theorem dX8_live_18 : decode cX8_live 18 = .ok (.invokevirtual 129, 3) := by decide +kernel
theorem dX8_live_21 : decode cX8_live 21 = .ok (.aload_n 0, 1) := by decide +kernel
theorem dX8_live_22 : decode cX8_live 22 = .ok (.iconst 0, 1) := by decide +kernel
theorem dX8_live_23 : decode cX8_live 23 = .ok (.putfield 132, 3) := by decide +kernel
theorem dX8_live_26 : decode cX8_live 26 = .ok (.iconst 0, 1) := by decide +kernel
theorem dX8_live_27 : decode cX8_live 27 = .ok (.istore_n 3, 1) := by decide +kernel
theorem dX8_live_28 : decode cX8_live 28 = .ok (.iconst 0, 1) := by decide +kernel
theorem dX8_live_29 : decode cX8_live 29 = .ok (.istore 4, 2) := by decide +kernel
theorem dX8_live_31 : decode cX8_live 31 = .ok (.iload 4, 2) := by decide +kernel
theorem dX8_live_33 : decode cX8_live 33 = .ok (.aload_n 0, 1) := by decide +kernel
theorem dX8_live_34 : decode cX8_live 34 = .ok (.getfield 36, 3) := by decide +kernel
theorem dX8_live_37 : decode cX8_live 37 = .ok (.getfield 88, 3) := by decide +kernel
theorem dX8_live_40 : decode cX8_live 40 = .ok (.if_icmp .ge 77, 3) := by decide +kernel
theorem dX8_live_43 : decode cX8_live 43 = .ok (.aload_n 0, 1) := by decide +kernel
theorem dX8_live_44 : decode cX8_live 44 = .ok (.getfield 24, 3) := by decide +kernel
theorem dX8_live_47 : decode cX8_live 47 = .ok (.iload 4, 2) := by decide +kernel
theorem dX8_live_49 : decode cX8_live 49 = .ok (.iaload, 1) := by decide +kernel
theorem dX8_live_50 : decode cX8_live 50 = .ok (.aload_n 1, 1) := by decide +kernel
theorem dX8_live_51 : decode cX8_live 51 = .ok (.getfield 135, 3) := by decide +kernel
theorem dX8_live_54 : decode cX8_live 54 = .ok (.iload 4, 2) := by decide +kernel
theorem dX8_live_56 : decode cX8_live 56 = .ok (.iaload, 1) := by decide +kernel
theorem dX8_live_57 : decode cX8_live 57 = .ok (.iadd, 1) := by decide +kernel
theorem dX8_live_58 : decode cX8_live 58 = .ok (.aload_n 0, 1) := by decide +kernel
theorem dX8_live_59 : decode cX8_live 59 = .ok (.getfield 36, 3) := by decide +kernel
theorem dX8_live_62 : decode cX8_live 62 = .ok (.getfield 138, 3) := by decide +kernel
theorem dX8_live_65 : decode cX8_live 65 = .ok (.iload 4, 2) := by decide +kernel
theorem dX8_live_67 : decode cX8_live 67 = .ok (.iaload, 1) := by decide +kernel
theorem dX8_live_68 : decode cX8_live 68 = .ok (.isub, 1) := by decide +kernel
theorem dX8_live_69 : decode cX8_live 69 = .ok (.istore 5, 2) := by decide +kernel
theorem dX8_live_71 : decode cX8_live 71 = .ok (.iload 5, 2) := by decide +kernel
theorem dX8_live_73 : decode cX8_live 73 = .ok (.ifCond .ge 19, 3) := by decide +kernel
theorem dX8_live_76 : decode cX8_live 76 = .ok (.aload_n 0, 1) := by decide +kernel
theorem dX8_live_77 : decode cX8_live 77 = .ok (.dup, 1) := by decide +kernel
theorem dX8_live_78 : decode cX8_live 78 = .ok (.getfield 132, 3) := by decide +kernel
theorem dX8_live_81 : decode cX8_live 81 = .ok (.iconst 1, 1) := by decide +kernel
theorem dX8_live_82 : decode cX8_live 82 = .ok (.iload 4, 2) := by decide +kernel
theorem dX8_live_84 : decode cX8_live 84 = .ok (.ishl, 1) := by decide +kernel
theorem dX8_live_85 : decode cX8_live 85 = .ok (.ior, 1) := by decide +kernel
theorem dX8_live_86 : decode cX8_live 86 = .ok (.putfield 132, 3) := by decide +kernel
theorem dX8_live_89 : decode cX8_live 89 = .ok (.iinc 3 1, 3) := by decide +kernel
theorem dX8_live_92 : decode cX8_live 92 = .ok (.aload_n 1, 1) := by decide +kernel
theorem dX8_live_93 : decode cX8_live 93 = .ok (.getfield 135, 3) := by decide +kernel
theorem dX8_live_96 : decode cX8_live 96 = .ok (.iload 4, 2) := by decide +kernel
theorem dX8_live_98 : decode cX8_live 98 = .ok (.iconst 0, 1) := by decide +kernel
theorem dX8_live_99 : decode cX8_live 99 = .ok (.sipush 999, 3) := by decide +kernel
theorem dX8_live_102 : decode cX8_live 102 = .ok (.iload 5, 2) := by decide +kernel
theorem dX8_live_104 : decode cX8_live 104 = .ok (.invokestatic 85, 3) := by decide +kernel
theorem dX8_live_107 : decode cX8_live 107 = .ok (.invokestatic 79, 3) := by decide +kernel
theorem dX8_live_110 : decode cX8_live 110 = .ok (.iastore, 1) := by decide +kernel
theorem dX8_live_111 : decode cX8_live 111 = .ok (.iinc 4 1, 3) := by decide +kernel
theorem dX8_live_114 : decode cX8_live 114 = .ok (.goto (-83), 3) := by decide +kernel
theorem dX8_live_117 : decode cX8_live 117 = .ok (.aload_n 0, 1) := by decide +kernel
theorem dX8_live_118 : decode cX8_live 118 = .ok (.getfield 9, 3) := by decide +kernel
theorem dX8_live_121 : decode cX8_live 121 = .ok (.iconst 0, 1) := by decide +kernel
theorem dX8_live_122 : decode cX8_live 122 = .ok (.aload_n 1, 1) := by decide +kernel
theorem dX8_live_123 : decode cX8_live 123 = .ok (.getfield 46, 3) := by decide +kernel
theorem dX8_live_126 : decode cX8_live 126 = .ok (.iconst 0, 1) := by decide +kernel
theorem dX8_live_127 : decode cX8_live 127 = .ok (.bipush 64, 2) := by decide +kernel
theorem dX8_live_129 : decode cX8_live 129 = .ok (.invokestatic 47, 3) := by decide +kernel
theorem dX8_live_132 : decode cX8_live 132 = .ok (.aload_n 1, 1) := by decide +kernel
theorem dX8_live_133 : decode cX8_live 133 = .ok (.aload_n 0, 1) := by decide +kernel
theorem dX8_live_134 : decode cX8_live 134 = .ok (.invokevirtual 141, 3) := by decide +kernel
theorem dX8_live_137 : decode cX8_live 137 = .ok (.iload_n 3, 1) := by decide +kernel
theorem dX8_live_138 : decode cX8_live 138 = .ok (.invokevirtual 145, 3) := by decide +kernel
theorem dX8_live_141 : decode cX8_live 141 = .ok (.aload_n 1, 1) := by decide +kernel
theorem dX8_live_142 : decode cX8_live 142 = .ok (.sipush 999, 3) := by decide +kernel
theorem dX8_live_145 : decode cX8_live 145 = .ok (.aload_n 1, 1) := by decide +kernel
theorem dX8_live_146 : decode cX8_live 146 = .ok (.getfield 40, 3) := by decide +kernel
theorem dX8_live_149 : decode cX8_live 149 = .ok (.iconst 1, 1) := by decide +kernel
theorem dX8_live_150 : decode cX8_live 150 = .ok (.iadd, 1) := by decide +kernel
theorem dX8_live_151 : decode cX8_live 151 = .ok (.invokestatic 85, 3) := by decide +kernel
theorem dX8_live_154 : decode cX8_live 154 = .ok (.putfield 40, 3) := by decide +kernel
theorem dX8_live_157 : decode cX8_live 157 = .ok (.aload_n 0, 1) := by decide +kernel
theorem dX8_live_158 : decode cX8_live 158 = .ok (.invokevirtual 141, 3) := by decide +kernel
theorem dX8_live_161 : decode cX8_live 161 = .ok (.ireturn, 1) := by decide +kernel
theorem dX9_init_0 : decode cX9_init 0 = .ok (.aload_n 0, 1) := by decide +kernel
theorem dX9_init_1 : decode cX9_init 1 = .ok (.invokespecial 3, 3) := by decide +kernel
theorem dX9_init_4 : decode cX9_init 4 = .ok (.aload_n 0, 1) := by decide +kernel
theorem dX9_init_5 : decode cX9_init 5 = .ok (.bipush 64, 2) := by decide +kernel
theorem dX9_init_7 : decode cX9_init 7 = .ok (.newarray .int, 2) := by decide +kernel
theorem dX9_init_9 : decode cX9_init 9 = .ok (.putfield 9, 3) := by decide +kernel
theorem dX9_init_12 : decode cX9_init 12 = .ok (.aload_n 0, 1) := by decide +kernel
theorem dX9_init_13 : decode cX9_init 13 = .ok (.bipush 64, 2) := by decide +kernel
theorem dX9_init_15 : decode cX9_init 15 = .ok (.sipush 576, 3) := by decide +kernel
theorem dX9_init_18 : decode cX9_init 18 = .ok (.multianewarray 15 2, 4) := by decide +kernel
theorem dX9_init_22 : decode cX9_init 22 = .ok (.putfield 17, 3) := by decide +kernel
theorem dX9_init_25 : decode cX9_init 25 = .ok (.aload_n 0, 1) := by decide +kernel
theorem dX9_init_26 : decode cX9_init 26 = .ok (.bipush 64, 2) := by decide +kernel
theorem dX9_init_28 : decode cX9_init 28 = .ok (.newarray .int, 2) := by decide +kernel
theorem dX9_init_30 : decode cX9_init 30 = .ok (.putfield 20, 3) := by decide +kernel
theorem dX9_init_33 : decode cX9_init 33 = .ok (.aload_n 0, 1) := by decide +kernel
theorem dX9_init_34 : decode cX9_init 34 = .ok (.bipush 100, 2) := by decide +kernel
theorem dX9_init_36 : decode cX9_init 36 = .ok (.newarray .int, 2) := by decide +kernel
theorem dX9_init_38 : decode cX9_init 38 = .ok (.putfield 23, 3) := by decide +kernel
theorem dX9_init_41 : decode cX9_init 41 = .ok (.aload_n 0, 1) := by decide +kernel
theorem dX9_init_42 : decode cX9_init 42 = .ok (.aload_n 1, 1) := by decide +kernel
theorem dX9_init_43 : decode cX9_init 43 = .ok (.putfield 26, 3) := by decide +kernel
theorem dX9_init_46 : decode cX9_init 46 = .ok (.aload_n 0, 1) := by decide +kernel
theorem dX9_init_47 : decode cX9_init 47 = .ok (.new 30, 3) := by decide +kernel
theorem dX9_init_50 : decode cX9_init 50 = .ok (.dup, 1) := by decide +kernel
theorem dX9_init_51 : decode cX9_init 51 = .ok (.aload_n 1, 1) := by decide +kernel
theorem dX9_init_52 : decode cX9_init 52 = .ok (.invokespecial 32, 3) := by decide +kernel
theorem dX9_init_55 : decode cX9_init 55 = .ok (.putfield 35, 3) := by decide +kernel
theorem dX9_init_58 : decode cX9_init 58 = .ok (.return_, 1) := by decide +kernel
theorem dX9_forget_0 : decode cX9_forget 0 = .ok (.aload_n 0, 1) := by decide +kernel
theorem dX9_forget_1 : decode cX9_forget 1 = .ok (.iconst 0, 1) := by decide +kernel
theorem dX9_forget_2 : decode cX9_forget 2 = .ok (.putfield 39, 3) := by decide +kernel
theorem dX9_forget_5 : decode cX9_forget 5 = .ok (.aload_n 0, 1) := by decide +kernel
theorem dX9_forget_6 : decode cX9_forget 6 = .ok (.iconst 0, 1) := by decide +kernel
theorem dX9_forget_7 : decode cX9_forget 7 = .ok (.putfield 43, 3) := by decide +kernel
theorem dX9_forget_10 : decode cX9_forget 10 = .ok (.return_, 1) := by decide +kernel
theorem dX9_forgetSeen_0 : decode cX9_forgetSeen 0 = .ok (.aload_n 0, 1) := by decide +kernel
theorem dX9_forgetSeen_1 : decode cX9_forgetSeen 1 = .ok (.iconst 0, 1) := by decide +kernel
theorem dX9_forgetSeen_2 : decode cX9_forgetSeen 2 = .ok (.putfield 46, 3) := by decide +kernel
theorem dX9_forgetSeen_5 : decode cX9_forgetSeen 5 = .ok (.return_, 1) := by decide +kernel
theorem dX9_look_0 : decode cX9_look 0 = .ok (.iload_n 2, 1) := by decide +kernel
theorem dX9_look_1 : decode cX9_look 1 = .ok (.iconst 4, 1) := by decide +kernel
theorem dX9_look_2 : decode cX9_look 2 = .ok (.idiv, 1) := by decide +kernel
theorem dX9_look_3 : decode cX9_look 3 = .ok (.istore_n 3, 1) := by decide +kernel
theorem dX9_look_4 : decode cX9_look 4 = .ok (.iload_n 3, 1) := by decide +kernel
theorem dX9_look_5 : decode cX9_look 5 = .ok (.iconst 1, 1) := by decide +kernel
theorem dX9_look_6 : decode cX9_look 6 = .ok (.if_icmp .lt 22, 3) := by decide +kernel
theorem dX9_look_9 : decode cX9_look 9 = .ok (.iload_n 3, 1) := by decide +kernel
theorem dX9_look_10 : decode cX9_look 10 = .ok (.bipush 16, 2) := by decide +kernel
theorem dX9_look_12 : decode cX9_look 12 = .ok (.if_icmp .gt 16, 3) := by decide +kernel
theorem dX9_look_15 : decode cX9_look 15 = .ok (.iload_n 3, 1) := by decide +kernel
theorem dX9_look_16 : decode cX9_look 16 = .ok (.iconst 4, 1) := by decide +kernel
theorem dX9_look_17 : decode cX9_look 17 = .ok (.imul, 1) := by decide +kernel
theorem dX9_look_18 : decode cX9_look 18 = .ok (.iload_n 2, 1) := by decide +kernel
theorem dX9_look_19 : decode cX9_look 19 = .ok (.if_icmp .ne 9, 3) := by decide +kernel
theorem dX9_look_22 : decode cX9_look 22 = .ok (.iload_n 2, 1) := by decide +kernel
theorem dX9_look_23 : decode cX9_look 23 = .ok (.aload_n 1, 1) := by decide +kernel
theorem dX9_look_24 : decode cX9_look 24 = .ok (.arraylength, 1) := by decide +kernel
theorem dX9_look_25 : decode cX9_look 25 = .ok (.if_icmp .le 5, 3) := by decide +kernel
theorem dX9_look_28 : decode cX9_look 28 = .ok (.iconst 0, 1) := by decide +kernel
theorem dX9_look_29 : decode cX9_look 29 = .ok (.ireturn, 1) := by decide +kernel
theorem dX9_look_30 : decode cX9_look 30 = .ok (.iconst 0, 1) := by decide +kernel
theorem dX9_look_31 : decode cX9_look 31 = .ok (.istore 4, 2) := by decide +kernel
theorem dX9_look_33 : decode cX9_look 33 = .ok (.iload 4, 2) := by decide +kernel
theorem dX9_look_35 : decode cX9_look 35 = .ok (.iload_n 2, 1) := by decide +kernel
theorem dX9_look_36 : decode cX9_look 36 = .ok (.if_icmp .ge 66, 3) := by decide +kernel
theorem dX9_look_39 : decode cX9_look 39 = .ok (.aload_n 0, 1) := by decide +kernel
theorem dX9_look_40 : decode cX9_look 40 = .ok (.getfield 26, 3) := by decide +kernel
theorem dX9_look_43 : decode cX9_look 43 = .ok (.aload_n 1, 1) := by decide +kernel
theorem dX9_look_44 : decode cX9_look 44 = .ok (.iload 4, 2) := by decide +kernel
theorem dX9_look_46 : decode cX9_look 46 = .ok (.iconst 1, 1) := by decide +kernel
theorem dX9_look_47 : decode cX9_look 47 = .ok (.iadd, 1) := by decide +kernel
theorem dX9_look_48 : decode cX9_look 48 = .ok (.iaload, 1) := by decide +kernel
theorem dX9_look_49 : decode cX9_look 49 = .ok (.aload_n 1, 1) := by decide +kernel
theorem dX9_look_50 : decode cX9_look 50 = .ok (.iload 4, 2) := by decide +kernel
theorem dX9_look_52 : decode cX9_look 52 = .ok (.iconst 2, 1) := by decide +kernel
theorem dX9_look_53 : decode cX9_look 53 = .ok (.iadd, 1) := by decide +kernel
theorem dX9_look_54 : decode cX9_look 54 = .ok (.iaload, 1) := by decide +kernel
theorem dX9_look_55 : decode cX9_look 55 = .ok (.invokevirtual 50, 3) := by decide +kernel
theorem dX9_look_58 : decode cX9_look 58 = .ok (.iconst (-1), 1) := by decide +kernel
theorem dX9_look_59 : decode cX9_look 59 = .ok (.if_icmp .eq 7, 3) := by decide +kernel
theorem dX9_look_62 : decode cX9_look 62 = .ok (.iconst 1, 1) := by decide +kernel
theorem dX9_look_63 : decode cX9_look 63 = .ok (.goto 4, 3) := by decide +kernel
theorem dX9_look_66 : decode cX9_look 66 = .ok (.iconst 0, 1) := by decide +kernel
theorem dX9_look_67 : decode cX9_look 67 = .ok (.istore 5, 2) := by decide +kernel
theorem dX9_look_69 : decode cX9_look 69 = .ok (.iload 5, 2) := by decide +kernel
theorem dX9_look_71 : decode cX9_look 71 = .ok (.ifCond .eq 23, 3) := by decide +kernel
theorem dX9_look_74 : decode cX9_look 74 = .ok (.aload_n 1, 1) := by decide +kernel
theorem dX9_look_75 : decode cX9_look 75 = .ok (.iload 4, 2) := by decide +kernel
theorem dX9_look_77 : decode cX9_look 77 = .ok (.iaload, 1) := by decide +kernel
theorem dX9_look_78 : decode cX9_look 78 = .ok (.bipush 8, 2) := by decide +kernel
theorem dX9_look_80 : decode cX9_look 80 = .ok (.if_icmp .gt 14, 3) := by decide +kernel
theorem dX9_look_83 : decode cX9_look 83 = .ok (.aload_n 1, 1) := by decide +kernel
theorem dX9_look_84 : decode cX9_look 84 = .ok (.iload 4, 2) := by decide +kernel
theorem dX9_look_86 : decode cX9_look 86 = .ok (.iconst 3, 1) := by decide +kernel
theorem dX9_look_87 : decode cX9_look 87 = .ok (.iadd, 1) := by decide +kernel
theorem dX9_look_88 : decode cX9_look 88 = .ok (.iaload, 1) := by decide +kernel
theorem dX9_look_89 : decode cX9_look 89 = .ok (.bipush 99, 2) := by decide +kernel
theorem dX9_look_91 : decode cX9_look 91 = .ok (.if_icmp .le 5, 3) := by decide +kernel
theorem dX9_look_94 : decode cX9_look 94 = .ok (.iconst 0, 1) := by decide +kernel
theorem dX9_look_95 : decode cX9_look 95 = .ok (.ireturn, 1) := by decide +kernel
theorem dX9_look_96 : decode cX9_look 96 = .ok (.iinc 4 4, 3) := by decide +kernel
theorem dX9_look_99 : decode cX9_look 99 = .ok (.goto (-66), 3) := by decide +kernel
theorem dX9_look_102 : decode cX9_look 102 = .ok (.aload_n 1, 1) := by decide +kernel
theorem dX9_look_103 : decode cX9_look 103 = .ok (.iconst 0, 1) := by decide +kernel
theorem dX9_look_104 : decode cX9_look 104 = .ok (.aload_n 0, 1) := by decide +kernel
theorem dX9_look_105 : decode cX9_look 105 = .ok (.getfield 9, 3) := by decide +kernel
theorem dX9_look_108 : decode cX9_look 108 = .ok (.iconst 0, 1) := by decide +kernel
theorem dX9_look_109 : decode cX9_look 109 = .ok (.iload_n 2, 1) := by decide +kernel
theorem dX9_look_110 : decode cX9_look 110 = .ok (.invokestatic 56, 3) := by decide +kernel
theorem dX9_look_113 : decode cX9_look 113 = .ok (.aload_n 0, 1) := by decide +kernel
theorem dX9_look_114 : decode cX9_look 114 = .ok (.iload_n 3, 1) := by decide +kernel
theorem dX9_look_115 : decode cX9_look 115 = .ok (.putfield 46, 3) := by decide +kernel
theorem dX9_look_118 : decode cX9_look 118 = .ok (.aload_n 0, 1) := by decide +kernel
theorem dX9_look_119 : decode cX9_look 119 = .ok (.invokevirtual 62, 3) := by decide +kernel
theorem dX9_look_122 : decode cX9_look 122 = .ok (.iconst 1, 1) := by decide +kernel
theorem dX9_look_123 : decode cX9_look 123 = .ok (.ireturn, 1) := by decide +kernel
theorem dX9_learn_0 : decode cX9_learn 0 = .ok (.aload_n 0, 1) := by decide +kernel
theorem dX9_learn_1 : decode cX9_learn 1 = .ok (.getfield 39, 3) := by decide +kernel
theorem dX9_learn_4 : decode cX9_learn 4 = .ok (.ifCond .eq 4, 3) := by decide +kernel
theorem dX9_learn_7 : decode cX9_learn 7 = .ok (.return_, 1) := by decide +kernel
theorem dX9_learn_8 : decode cX9_learn 8 = .ok (.aload_n 0, 1) := by decide +kernel
theorem dX9_learn_9 : decode cX9_learn 9 = .ok (.iconst 1, 1) := by decide +kernel
theorem dX9_learn_10 : decode cX9_learn 10 = .ok (.putfield 39, 3) := by decide +kernel
theorem dX9_learn_13 : decode cX9_learn 13 = .ok (.aload_n 0, 1) := by decide +kernel
theorem dX9_learn_14 : decode cX9_learn 14 = .ok (.iconst 0, 1) := by decide +kernel
theorem dX9_learn_15 : decode cX9_learn 15 = .ok (.putfield 65, 3) := by decide +kernel
theorem dX9_learn_18 : decode cX9_learn 18 = .ok (.iconst 0, 1) := by decide +kernel
theorem dX9_learn_19 : decode cX9_learn 19 = .ok (.istore_n 2, 1) := by decide +kernel
theorem dX9_learn_20 : decode cX9_learn 20 = .ok (.iload_n 2, 1) := by decide +kernel
theorem dX9_learn_21 : decode cX9_learn 21 = .ok (.iconst 1, 1) := by decide +kernel
theorem dX9_learn_22 : decode cX9_learn 22 = .ok (.aload_n 0, 1) := by decide +kernel
theorem dX9_learn_23 : decode cX9_learn 23 = .ok (.getfield 26, 3) := by decide +kernel
theorem dX9_learn_26 : decode cX9_learn 26 = .ok (.getfield 68, 3) := by decide +kernel
theorem dX9_learn_29 : decode cX9_learn 29 = .ok (.ishl, 1) := by decide +kernel
theorem dX9_learn_30 : decode cX9_learn 30 = .ok (.if_icmp .ge 107, 3) := by decide +kernel
theorem dX9_learn_33 : decode cX9_learn 33 = .ok (.iload_n 2, 1) := by decide +kernel
theorem dX9_learn_34 : decode cX9_learn 34 = .ok (.bipush 63, 2) := by decide +kernel
theorem dX9_learn_36 : decode cX9_learn 36 = .ok (.if_icmp .gt 101, 3) := by decide +kernel
theorem dX9_learn_39 : decode cX9_learn 39 = .ok (.aload_n 0, 1) := by decide +kernel
theorem dX9_learn_40 : decode cX9_learn 40 = .ok (.getfield 35, 3) := by decide +kernel
theorem dX9_learn_43 : decode cX9_learn 43 = .ok (.aload_n 1, 1) := by decide +kernel
theorem dX9_learn_44 : decode cX9_learn 44 = .ok (.invokevirtual 71, 3) := by decide +kernel
theorem dX9_learn_47 : decode cX9_learn 47 = .ok (.aload_n 0, 1) := by decide +kernel
theorem dX9_learn_48 : decode cX9_learn 48 = .ok (.getfield 35, 3) := by decide +kernel
theorem dX9_learn_51 : decode cX9_learn 51 = .ok (.iload_n 2, 1) := by decide +kernel
theorem dX9_learn_52 : decode cX9_learn 52 = .ok (.putfield 75, 3) := by decide +kernel
theorem dX9_learn_55 : decode cX9_learn 55 = .ok (.iconst 0, 1) := by decide +kernel
theorem dX9_learn_56 : decode cX9_learn 56 = .ok (.istore_n 3, 1) := by decide +kernel
theorem dX9_learn_57 : decode cX9_learn 57 = .ok (.iload_n 3, 1) := by decide +kernel
theorem dX9_learn_58 : decode cX9_learn 58 = .ok (.bipush 9, 2) := by decide +kernel
theorem dX9_learn_60 : decode cX9_learn 60 = .ok (.if_icmp .ge 43, 3) := by decide +kernel
theorem dX9_learn_63 : decode cX9_learn 63 = .ok (.aload_n 0, 1) := by decide +kernel
theorem dX9_learn_64 : decode cX9_learn 64 = .ok (.getfield 35, 3) := by decide +kernel
theorem dX9_learn_67 : decode cX9_learn 67 = .ok (.iload_n 3, 1) := by decide +kernel
theorem dX9_learn_68 : decode cX9_learn 68 = .ok (.iload_n 3, 1) := by decide +kernel
theorem dX9_learn_69 : decode cX9_learn 69 = .ok (.iconst 1, 1) := by decide +kernel
theorem dX9_learn_70 : decode cX9_learn 70 = .ok (.iadd, 1) := by decide +kernel
theorem dX9_learn_71 : decode cX9_learn 71 = .ok (.invokevirtual 78, 3) := by decide +kernel
theorem dX9_learn_74 : decode cX9_learn 74 = .ok (.aload_n 0, 1) := by decide +kernel
theorem dX9_learn_75 : decode cX9_learn 75 = .ok (.getfield 35, 3) := by decide +kernel
theorem dX9_learn_78 : decode cX9_learn 78 = .ok (.getfield 82, 3) := by decide +kernel
theorem dX9_learn_81 : decode cX9_learn 81 = .ok (.iconst 0, 1) := by decide +kernel
theorem dX9_learn_82 : decode cX9_learn 82 = .ok (.aload_n 0, 1) := by decide +kernel
theorem dX9_learn_83 : decode cX9_learn 83 = .ok (.getfield 17, 3) := by decide +kernel
theorem dX9_learn_86 : decode cX9_learn 86 = .ok (.iload_n 2, 1) := by decide +kernel
theorem dX9_learn_87 : decode cX9_learn 87 = .ok (.aaload, 1) := by decide +kernel
theorem dX9_learn_88 : decode cX9_learn 88 = .ok (.iload_n 3, 1) := by decide +kernel
theorem dX9_learn_89 : decode cX9_learn 89 = .ok (.bipush 64, 2) := by decide +kernel
theorem dX9_learn_91 : decode cX9_learn 91 = .ok (.imul, 1) := by decide +kernel
theorem dX9_learn_92 : decode cX9_learn 92 = .ok (.bipush 64, 2) := by decide +kernel
theorem dX9_learn_94 : decode cX9_learn 94 = .ok (.invokestatic 56, 3) := by decide +kernel
theorem dX9_learn_97 : decode cX9_learn 97 = .ok (.iinc 3 1, 3) := by decide +kernel
theorem dX9_learn_100 : decode cX9_learn 100 = .ok (.goto (-43), 3) := by decide +kernel
theorem dX9_learn_103 : decode cX9_learn 103 = .ok (.aload_n 0, 1) := by decide +kernel
theorem dX9_learn_104 : decode cX9_learn 104 = .ok (.iload_n 2, 1) := by decide +kernel
theorem dX9_learn_105 : decode cX9_learn 105 = .ok (.invokevirtual 85, 3) := by decide +kernel
theorem dX9_learn_108 : decode cX9_learn 108 = .ok (.ifCond .eq 23, 3) := by decide +kernel
theorem dX9_learn_111 : decode cX9_learn 111 = .ok (.aload_n 0, 1) := by decide +kernel
theorem dX9_learn_112 : decode cX9_learn 112 = .ok (.getfield 20, 3) := by decide +kernel
theorem dX9_learn_115 : decode cX9_learn 115 = .ok (.aload_n 0, 1) := by decide +kernel
theorem dX9_learn_116 : decode cX9_learn 116 = .ok (.getfield 65, 3) := by decide +kernel
theorem dX9_learn_119 : decode cX9_learn 119 = .ok (.iload_n 2, 1) := by decide +kernel
theorem dX9_learn_120 : decode cX9_learn 120 = .ok (.iastore, 1) := by decide +kernel
theorem dX9_learn_121 : decode cX9_learn 121 = .ok (.aload_n 0, 1) := by decide +kernel
theorem dX9_learn_122 : decode cX9_learn 122 = .ok (.dup, 1) := by decide +kernel
theorem dX9_learn_123 : decode cX9_learn 123 = .ok (.getfield 65, 3) := by decide +kernel
theorem dX9_learn_126 : decode cX9_learn 126 = .ok (.iconst 1, 1) := by decide +kernel
theorem dX9_learn_127 : decode cX9_learn 127 = .ok (.iadd, 1) := by decide +kernel
theorem dX9_learn_128 : decode cX9_learn 128 = .ok (.putfield 65, 3) := by decide +kernel
theorem dX9_learn_131 : decode cX9_learn 131 = .ok (.iinc 2 1, 3) := by decide +kernel
theorem dX9_learn_134 : decode cX9_learn 134 = .ok (.goto (-114), 3) := by decide +kernel
theorem dX9_learn_137 : decode cX9_learn 137 = .ok (.return_, 1) := by decide +kernel
theorem dX9_isSo_0 : decode cX9_isSo 0 = .ok (.iconst 0, 1) := by decide +kernel
theorem dX9_isSo_1 : decode cX9_isSo 1 = .ok (.istore_n 2, 1) := by decide +kernel
theorem dX9_isSo_2 : decode cX9_isSo 2 = .ok (.iload_n 2, 1) := by decide +kernel
theorem dX9_isSo_3 : decode cX9_isSo 3 = .ok (.aload_n 0, 1) := by decide +kernel
theorem dX9_isSo_4 : decode cX9_isSo 4 = .ok (.getfield 46, 3) := by decide +kernel
theorem dX9_isSo_7 : decode cX9_isSo 7 = .ok (.iconst 4, 1) := by decide +kernel
theorem dX9_isSo_8 : decode cX9_isSo 8 = .ok (.imul, 1) := by decide +kernel
theorem dX9_isSo_9 : decode cX9_isSo 9 = .ok (.if_icmp .ge 69, 3) := by decide +kernel
theorem dX9_isSo_12 : decode cX9_isSo 12 = .ok (.aload_n 0, 1) := by decide +kernel
theorem dX9_isSo_13 : decode cX9_isSo 13 = .ok (.getfield 26, 3) := by decide +kernel
theorem dX9_isSo_16 : decode cX9_isSo 16 = .ok (.aload_n 0, 1) := by decide +kernel
theorem dX9_isSo_17 : decode cX9_isSo 17 = .ok (.getfield 9, 3) := by decide +kernel
theorem dX9_isSo_20 : decode cX9_isSo 20 = .ok (.iload_n 2, 1) := by decide +kernel
theorem dX9_isSo_21 : decode cX9_isSo 21 = .ok (.iconst 1, 1) := by decide +kernel
theorem dX9_isSo_22 : decode cX9_isSo 22 = .ok (.iadd, 1) := by decide +kernel
theorem dX9_isSo_23 : decode cX9_isSo 23 = .ok (.iaload, 1) := by decide +kernel
theorem dX9_isSo_24 : decode cX9_isSo 24 = .ok (.aload_n 0, 1) := by decide +kernel
theorem dX9_isSo_25 : decode cX9_isSo 25 = .ok (.getfield 9, 3) := by decide +kernel
theorem dX9_isSo_28 : decode cX9_isSo 28 = .ok (.iload_n 2, 1) := by decide +kernel
theorem dX9_isSo_29 : decode cX9_isSo 29 = .ok (.iconst 2, 1) := by decide +kernel
theorem dX9_isSo_30 : decode cX9_isSo 30 = .ok (.iadd, 1) := by decide +kernel
theorem dX9_isSo_31 : decode cX9_isSo 31 = .ok (.iaload, 1) := by decide +kernel
theorem dX9_isSo_32 : decode cX9_isSo 32 = .ok (.invokevirtual 50, 3) := by decide +kernel
theorem dX9_isSo_35 : decode cX9_isSo 35 = .ok (.istore_n 3, 1) := by decide +kernel
theorem dX9_isSo_36 : decode cX9_isSo 36 = .ok (.iload_n 3, 1) := by decide +kernel
theorem dX9_isSo_37 : decode cX9_isSo 37 = .ok (.iconst (-1), 1) := by decide +kernel
theorem dX9_isSo_38 : decode cX9_isSo 38 = .ok (.if_icmp .eq 32, 3) := by decide +kernel
theorem dX9_isSo_41 : decode cX9_isSo 41 = .ok (.aload_n 0, 1) := by decide +kernel
theorem dX9_isSo_42 : decode cX9_isSo 42 = .ok (.getfield 17, 3) := by decide +kernel
theorem dX9_isSo_45 : decode cX9_isSo 45 = .ok (.iload_n 1, 1) := by decide +kernel
theorem dX9_isSo_46 : decode cX9_isSo 46 = .ok (.aaload, 1) := by decide +kernel
theorem dX9_isSo_47 : decode cX9_isSo 47 = .ok (.aload_n 0, 1) := by decide +kernel
theorem dX9_isSo_48 : decode cX9_isSo 48 = .ok (.getfield 9, 3) := by decide +kernel
theorem dX9_isSo_51 : decode cX9_isSo 51 = .ok (.iload_n 2, 1) := by decide +kernel
theorem dX9_isSo_52 : decode cX9_isSo 52 = .ok (.iaload, 1) := by decide +kernel
theorem dX9_isSo_53 : decode cX9_isSo 53 = .ok (.bipush 64, 2) := by decide +kernel
theorem dX9_isSo_55 : decode cX9_isSo 55 = .ok (.imul, 1) := by decide +kernel
theorem dX9_isSo_56 : decode cX9_isSo 56 = .ok (.iload_n 3, 1) := by decide +kernel
theorem dX9_isSo_57 : decode cX9_isSo 57 = .ok (.iadd, 1) := by decide +kernel
theorem dX9_isSo_58 : decode cX9_isSo 58 = .ok (.iaload, 1) := by decide +kernel
theorem dX9_isSo_59 : decode cX9_isSo 59 = .ok (.aload_n 0, 1) := by decide +kernel
theorem dX9_isSo_60 : decode cX9_isSo 60 = .ok (.getfield 9, 3) := by decide +kernel
theorem dX9_isSo_63 : decode cX9_isSo 63 = .ok (.iload_n 2, 1) := by decide +kernel
theorem dX9_isSo_64 : decode cX9_isSo 64 = .ok (.iconst 3, 1) := by decide +kernel
theorem dX9_isSo_65 : decode cX9_isSo 65 = .ok (.iadd, 1) := by decide +kernel
theorem dX9_isSo_66 : decode cX9_isSo 66 = .ok (.iaload, 1) := by decide +kernel
theorem dX9_isSo_67 : decode cX9_isSo 67 = .ok (.if_icmp .eq 5, 3) := by decide +kernel
theorem dX9_isSo_70 : decode cX9_isSo 70 = .ok (.iconst 0, 1) := by decide +kernel
theorem dX9_isSo_71 : decode cX9_isSo 71 = .ok (.ireturn, 1) := by decide +kernel
theorem dX9_isSo_72 : decode cX9_isSo 72 = .ok (.iinc 2 4, 3) := by decide +kernel
theorem dX9_isSo_75 : decode cX9_isSo 75 = .ok (.goto (-73), 3) := by decide +kernel
theorem dX9_isSo_78 : decode cX9_isSo 78 = .ok (.iconst 1, 1) := by decide +kernel
theorem dX9_isSo_79 : decode cX9_isSo 79 = .ok (.ireturn, 1) := by decide +kernel
theorem dX9_findTelling_0 : decode cX9_findTelling 0 = .ok (.aload_n 0, 1) := by decide +kernel
theorem dX9_findTelling_1 : decode cX9_findTelling 1 = .ok (.getfield 43, 3) := by decide +kernel
theorem dX9_findTelling_4 : decode cX9_findTelling 4 = .ok (.ifCond .eq 4, 3) := by decide +kernel
theorem dX9_findTelling_7 : decode cX9_findTelling 7 = .ok (.return_, 1) := by decide +kernel
theorem dX9_findTelling_8 : decode cX9_findTelling 8 = .ok (.aload_n 0, 1) := by decide +kernel
theorem dX9_findTelling_9 : decode cX9_findTelling 9 = .ok (.iconst 1, 1) := by decide +kernel
theorem dX9_findTelling_10 : decode cX9_findTelling 10 = .ok (.putfield 43, 3) := by decide +kernel
theorem dX9_findTelling_13 : decode cX9_findTelling 13 = .ok (.aload_n 0, 1) := by decide +kernel
theorem dX9_findTelling_14 : decode cX9_findTelling 14 = .ok (.aload_n 0, 1) := by decide +kernel
theorem dX9_findTelling_15 : decode cX9_findTelling 15 = .ok (.getfield 65, 3) := by decide +kernel
theorem dX9_findTelling_18 : decode cX9_findTelling 18 = .ok (.iconst 1, 1) := by decide +kernel
theorem dX9_findTelling_19 : decode cX9_findTelling 19 = .ok (.iadd, 1) := by decide +kernel
theorem dX9_findTelling_20 : decode cX9_findTelling 20 = .ok (.putfield 89, 3) := by decide +kernel
theorem dX9_findTelling_23 : decode cX9_findTelling 23 = .ok (.iconst 0, 1) := by decide +kernel
theorem dX9_findTelling_24 : decode cX9_findTelling 24 = .ok (.istore_n 1, 1) := by decide +kernel
theorem dX9_findTelling_25 : decode cX9_findTelling 25 = .ok (.iload_n 1, 1) := by decide +kernel
theorem dX9_findTelling_26 : decode cX9_findTelling 26 = .ok (.bipush 9, 2) := by decide +kernel
theorem dX9_findTelling_28 : decode cX9_findTelling 28 = .ok (.if_icmp .ge 62, 3) := by decide +kernel
theorem dX9_findTelling_31 : decode cX9_findTelling 31 = .ok (.iconst 0, 1) := by decide +kernel
theorem dX9_findTelling_32 : decode cX9_findTelling 32 = .ok (.istore_n 2, 1) := by decide +kernel
theorem dX9_findTelling_33 : decode cX9_findTelling 33 = .ok (.iload_n 2, 1) := by decide +kernel
theorem dX9_findTelling_34 : decode cX9_findTelling 34 = .ok (.aload_n 0, 1) := by decide +kernel
theorem dX9_findTelling_35 : decode cX9_findTelling 35 = .ok (.getfield 26, 3) := by decide +kernel
theorem dX9_findTelling_38 : decode cX9_findTelling 38 = .ok (.getfield 92, 3) := by decide +kernel
theorem dX9_findTelling_41 : decode cX9_findTelling 41 = .ok (.if_icmp .ge 43, 3) := by decide +kernel
theorem dX9_findTelling_44 : decode cX9_findTelling 44 = .ok (.aload_n 0, 1) := by decide +kernel
theorem dX9_findTelling_45 : decode cX9_findTelling 45 = .ok (.iload_n 1, 1) := by decide +kernel
theorem dX9_findTelling_46 : decode cX9_findTelling 46 = .ok (.bipush 64, 2) := by decide +kernel
theorem dX9_findTelling_48 : decode cX9_findTelling 48 = .ok (.imul, 1) := by decide +kernel
theorem dX9_findTelling_49 : decode cX9_findTelling 49 = .ok (.iload_n 2, 1) := by decide +kernel
theorem dX9_findTelling_50 : decode cX9_findTelling 50 = .ok (.iadd, 1) := by decide +kernel
theorem dX9_findTelling_51 : decode cX9_findTelling 51 = .ok (.invokevirtual 95, 3) := by decide +kernel
theorem dX9_findTelling_54 : decode cX9_findTelling 54 = .ok (.istore_n 3, 1) := by decide +kernel
theorem dX9_findTelling_55 : decode cX9_findTelling 55 = .ok (.iload_n 3, 1) := by decide +kernel
theorem dX9_findTelling_56 : decode cX9_findTelling 56 = .ok (.aload_n 0, 1) := by decide +kernel
theorem dX9_findTelling_57 : decode cX9_findTelling 57 = .ok (.getfield 89, 3) := by decide +kernel
theorem dX9_findTelling_60 : decode cX9_findTelling 60 = .ok (.if_icmp .ge 18, 3) := by decide +kernel
theorem dX9_findTelling_63 : decode cX9_findTelling 63 = .ok (.aload_n 0, 1) := by decide +kernel
theorem dX9_findTelling_64 : decode cX9_findTelling 64 = .ok (.iload_n 3, 1) := by decide +kernel
theorem dX9_findTelling_65 : decode cX9_findTelling 65 = .ok (.putfield 89, 3) := by decide +kernel
theorem dX9_findTelling_68 : decode cX9_findTelling 68 = .ok (.aload_n 0, 1) := by decide +kernel
theorem dX9_findTelling_69 : decode cX9_findTelling 69 = .ok (.iload_n 1, 1) := by decide +kernel
theorem dX9_findTelling_70 : decode cX9_findTelling 70 = .ok (.putfield 99, 3) := by decide +kernel
theorem dX9_findTelling_73 : decode cX9_findTelling 73 = .ok (.aload_n 0, 1) := by decide +kernel
theorem dX9_findTelling_74 : decode cX9_findTelling 74 = .ok (.iload_n 2, 1) := by decide +kernel
theorem dX9_findTelling_75 : decode cX9_findTelling 75 = .ok (.putfield 102, 3) := by decide +kernel
theorem dX9_findTelling_78 : decode cX9_findTelling 78 = .ok (.iinc 2 1, 3) := by decide +kernel
theorem dX9_findTelling_81 : decode cX9_findTelling 81 = .ok (.goto (-48), 3) := by decide +kernel
theorem dX9_findTelling_84 : decode cX9_findTelling 84 = .ok (.iinc 1 1, 3) := by decide +kernel
theorem dX9_findTelling_87 : decode cX9_findTelling 87 = .ok (.goto (-62), 3) := by decide +kernel
theorem dX9_findTelling_90 : decode cX9_findTelling 90 = .ok (.return_, 1) := by decide +kernel
theorem dX9_mostLeft_0 : decode cX9_mostLeft 0 = .ok (.iconst 0, 1) := by decide +kernel
theorem dX9_mostLeft_1 : decode cX9_mostLeft 1 = .ok (.istore_n 2, 1) := by decide +kernel
theorem dX9_mostLeft_2 : decode cX9_mostLeft 2 = .ok (.iconst 0, 1) := by decide +kernel
theorem dX9_mostLeft_3 : decode cX9_mostLeft 3 = .ok (.istore_n 3, 1) := by decide +kernel
theorem dX9_mostLeft_4 : decode cX9_mostLeft 4 = .ok (.iload_n 3, 1) := by decide +kernel
theorem dX9_mostLeft_5 : decode cX9_mostLeft 5 = .ok (.aload_n 0, 1) := by decide +kernel
theorem dX9_mostLeft_6 : decode cX9_mostLeft 6 = .ok (.getfield 23, 3) := by decide +kernel
theorem dX9_mostLeft_9 : decode cX9_mostLeft 9 = .ok (.arraylength, 1) := by decide +kernel
theorem dX9_mostLeft_10 : decode cX9_mostLeft 10 = .ok (.if_icmp .ge 16, 3) := by decide +kernel
theorem dX9_mostLeft_13 : decode cX9_mostLeft 13 = .ok (.aload_n 0, 1) := by decide +kernel
theorem dX9_mostLeft_14 : decode cX9_mostLeft 14 = .ok (.getfield 23, 3) := by decide +kernel
theorem dX9_mostLeft_17 : decode cX9_mostLeft 17 = .ok (.iload_n 3, 1) := by decide +kernel
theorem dX9_mostLeft_18 : decode cX9_mostLeft 18 = .ok (.iconst 0, 1) := by decide +kernel
theorem dX9_mostLeft_19 : decode cX9_mostLeft 19 = .ok (.iastore, 1) := by decide +kernel
theorem dX9_mostLeft_20 : decode cX9_mostLeft 20 = .ok (.iinc 3 1, 3) := by decide +kernel
theorem dX9_mostLeft_23 : decode cX9_mostLeft 23 = .ok (.goto (-19), 3) := by decide +kernel
theorem dX9_mostLeft_26 : decode cX9_mostLeft 26 = .ok (.iconst 0, 1) := by decide +kernel
theorem dX9_mostLeft_27 : decode cX9_mostLeft 27 = .ok (.istore_n 3, 1) := by decide +kernel
theorem dX9_mostLeft_28 : decode cX9_mostLeft 28 = .ok (.iload_n 3, 1) := by decide +kernel
theorem dX9_mostLeft_29 : decode cX9_mostLeft 29 = .ok (.aload_n 0, 1) := by decide +kernel
theorem dX9_mostLeft_30 : decode cX9_mostLeft 30 = .ok (.getfield 65, 3) := by decide +kernel
theorem dX9_mostLeft_33 : decode cX9_mostLeft 33 = .ok (.if_icmp .ge 62, 3) := by decide +kernel
theorem dX9_mostLeft_36 : decode cX9_mostLeft 36 = .ok (.aload_n 0, 1) := by decide +kernel
theorem dX9_mostLeft_37 : decode cX9_mostLeft 37 = .ok (.getfield 17, 3) := by decide +kernel
theorem dX9_mostLeft_40 : decode cX9_mostLeft 40 = .ok (.aload_n 0, 1) := by decide +kernel
theorem dX9_mostLeft_41 : decode cX9_mostLeft 41 = .ok (.getfield 20, 3) := by decide +kernel
theorem dX9_mostLeft_44 : decode cX9_mostLeft 44 = .ok (.iload_n 3, 1) := by decide +kernel
theorem dX9_mostLeft_45 : decode cX9_mostLeft 45 = .ok (.iaload, 1) := by decide +kernel
theorem dX9_mostLeft_46 : decode cX9_mostLeft 46 = .ok (.aaload, 1) := by decide +kernel
theorem dX9_mostLeft_47 : decode cX9_mostLeft 47 = .ok (.iload_n 1, 1) := by decide +kernel
theorem dX9_mostLeft_48 : decode cX9_mostLeft 48 = .ok (.iaload, 1) := by decide +kernel
theorem dX9_mostLeft_49 : decode cX9_mostLeft 49 = .ok (.istore 4, 2) := by decide +kernel
theorem dX9_mostLeft_51 : decode cX9_mostLeft 51 = .ok (.iload 4, 2) := by decide +kernel
theorem dX9_mostLeft_53 : decode cX9_mostLeft 53 = .ok (.ifCond .lt 36, 3) := by decide +kernel
theorem dX9_mostLeft_56 : decode cX9_mostLeft 56 = .ok (.iload 4, 2) := by decide +kernel
theorem dX9_mostLeft_58 : decode cX9_mostLeft 58 = .ok (.aload_n 0, 1) := by decide +kernel
theorem dX9_mostLeft_59 : decode cX9_mostLeft 59 = .ok (.getfield 23, 3) := by decide +kernel
theorem dX9_mostLeft_62 : decode cX9_mostLeft 62 = .ok (.arraylength, 1) := by decide +kernel
theorem dX9_mostLeft_63 : decode cX9_mostLeft 63 = .ok (.if_icmp .ge 26, 3) := by decide +kernel
theorem dX9_mostLeft_66 : decode cX9_mostLeft 66 = .ok (.aload_n 0, 1) := by decide +kernel
theorem dX9_mostLeft_67 : decode cX9_mostLeft 67 = .ok (.getfield 23, 3) := by decide +kernel
theorem dX9_mostLeft_70 : decode cX9_mostLeft 70 = .ok (.iload 4, 2) := by decide +kernel
theorem dX9_mostLeft_72 : decode cX9_mostLeft 72 = .ok (.dup2, 1) := by decide +kernel
theorem dX9_mostLeft_73 : decode cX9_mostLeft 73 = .ok (.iaload, 1) := by decide +kernel
theorem dX9_mostLeft_74 : decode cX9_mostLeft 74 = .ok (.iconst 1, 1) := by decide +kernel
theorem dX9_mostLeft_75 : decode cX9_mostLeft 75 = .ok (.iadd, 1) := by decide +kernel
theorem dX9_mostLeft_76 : decode cX9_mostLeft 76 = .ok (.iastore, 1) := by decide +kernel
theorem dX9_mostLeft_77 : decode cX9_mostLeft 77 = .ok (.iload_n 2, 1) := by decide +kernel
theorem dX9_mostLeft_78 : decode cX9_mostLeft 78 = .ok (.aload_n 0, 1) := by decide +kernel
theorem dX9_mostLeft_79 : decode cX9_mostLeft 79 = .ok (.getfield 23, 3) := by decide +kernel
theorem dX9_mostLeft_82 : decode cX9_mostLeft 82 = .ok (.iload 4, 2) := by decide +kernel
theorem dX9_mostLeft_84 : decode cX9_mostLeft 84 = .ok (.iaload, 1) := by decide +kernel
theorem dX9_mostLeft_85 : decode cX9_mostLeft 85 = .ok (.invokestatic 105, 3) := by decide +kernel
theorem dX9_mostLeft_88 : decode cX9_mostLeft 88 = .ok (.istore_n 2, 1) := by decide +kernel
theorem dX9_mostLeft_89 : decode cX9_mostLeft 89 = .ok (.iinc 3 1, 3) := by decide +kernel
theorem dX9_mostLeft_92 : decode cX9_mostLeft 92 = .ok (.goto (-64), 3) := by decide +kernel
theorem dX9_mostLeft_95 : decode cX9_mostLeft 95 = .ok (.iload_n 2, 1) := by decide +kernel
theorem dX9_mostLeft_96 : decode cX9_mostLeft 96 = .ok (.ireturn, 1) := by decide +kernel
theorem dX10_init_0 : decode cX10_init 0 = .ok (.aload_n 0, 1) := by decide +kernel
theorem dX10_init_1 : decode cX10_init 1 = .ok (.invokespecial 3, 3) := by decide +kernel
theorem dX10_init_4 : decode cX10_init 4 = .ok (.aload_n 0, 1) := by decide +kernel
theorem dX10_init_5 : decode cX10_init 5 = .ok (.bipush 6, 2) := by decide +kernel
theorem dX10_init_7 : decode cX10_init 7 = .ok (.anewarray 9, 3) := by decide +kernel
theorem dX10_init_10 : decode cX10_init 10 = .ok (.putfield 11, 3) := by decide +kernel
theorem dX10_init_13 : decode cX10_init 13 = .ok (.aload_n 0, 1) := by decide +kernel
theorem dX10_init_14 : decode cX10_init 14 = .ok (.iconst 5, 1) := by decide +kernel
theorem dX10_init_15 : decode cX10_init 15 = .ok (.newarray .int, 2) := by decide +kernel
theorem dX10_init_17 : decode cX10_init 17 = .ok (.putfield 17, 3) := by decide +kernel
theorem dX10_init_20 : decode cX10_init 20 = .ok (.aload_n 0, 1) := by decide +kernel
theorem dX10_init_21 : decode cX10_init 21 = .ok (.iconst 5, 1) := by decide +kernel
theorem dX10_init_22 : decode cX10_init 22 = .ok (.newarray .int, 2) := by decide +kernel
theorem dX10_init_24 : decode cX10_init 24 = .ok (.putfield 21, 3) := by decide +kernel
theorem dX10_init_27 : decode cX10_init 27 = .ok (.aload_n 0, 1) := by decide +kernel
theorem dX10_init_28 : decode cX10_init 28 = .ok (.iconst (-1), 1) := by decide +kernel
theorem dX10_init_29 : decode cX10_init 29 = .ok (.putfield 24, 3) := by decide +kernel
theorem dX10_init_32 : decode cX10_init 32 = .ok (.aload_n 0, 1) := by decide +kernel
theorem dX10_init_33 : decode cX10_init 33 = .ok (.aload_n 1, 1) := by decide +kernel
theorem dX10_init_34 : decode cX10_init 34 = .ok (.putfield 28, 3) := by decide +kernel
theorem dX10_init_37 : decode cX10_init 37 = .ok (.iconst 0, 1) := by decide +kernel
theorem dX10_init_38 : decode cX10_init 38 = .ok (.istore_n 2, 1) := by decide +kernel
theorem dX10_init_39 : decode cX10_init 39 = .ok (.iload_n 2, 1) := by decide +kernel
theorem dX10_init_40 : decode cX10_init 40 = .ok (.iconst 5, 1) := by decide +kernel
theorem dX10_init_41 : decode cX10_init 41 = .ok (.if_icmp .gt 23, 3) := by decide +kernel
theorem dX10_init_44 : decode cX10_init 44 = .ok (.aload_n 0, 1) := by decide +kernel
theorem dX10_init_45 : decode cX10_init 45 = .ok (.getfield 11, 3) := by decide +kernel
theorem dX10_init_48 : decode cX10_init 48 = .ok (.iload_n 2, 1) := by decide +kernel
theorem dX10_init_49 : decode cX10_init 49 = .ok (.new 9, 3) := by decide +kernel
theorem dX10_init_52 : decode cX10_init 52 = .ok (.dup, 1) := by decide +kernel
theorem dX10_init_53 : decode cX10_init 53 = .ok (.aload_n 1, 1) := by decide +kernel
theorem dX10_init_54 : decode cX10_init 54 = .ok (.invokespecial 32, 3) := by decide +kernel
theorem dX10_init_57 : decode cX10_init 57 = .ok (.aastore, 1) := by decide +kernel
theorem dX10_init_58 : decode cX10_init 58 = .ok (.iinc 2 1, 3) := by decide +kernel
theorem dX10_init_61 : decode cX10_init 61 = .ok (.goto (-22), 3) := by decide +kernel
theorem dX10_init_64 : decode cX10_init 64 = .ok (.return_, 1) := by decide +kernel
theorem dX10_forget_0 : decode cX10_forget 0 = .ok (.aload_n 0, 1) := by decide +kernel
theorem dX10_forget_1 : decode cX10_forget 1 = .ok (.iconst (-1), 1) := by decide +kernel
theorem dX10_forget_2 : decode cX10_forget 2 = .ok (.putfield 24, 3) := by decide +kernel
theorem dX10_forget_5 : decode cX10_forget 5 = .ok (.return_, 1) := by decide +kernel
theorem dX10_find_0 : decode cX10_find 0 = .ok (.aload_n 0, 1) := by decide +kernel
theorem dX10_find_1 : decode cX10_find 1 = .ok (.getfield 24, 3) := by decide +kernel
theorem dX10_find_4 : decode cX10_find 4 = .ok (.iload_n 2, 1) := by decide +kernel
theorem dX10_find_5 : decode cX10_find 5 = .ok (.if_icmp .ne 12, 3) := by decide +kernel
theorem dX10_find_8 : decode cX10_find 8 = .ok (.aload_n 0, 1) := by decide +kernel
theorem dX10_find_9 : decode cX10_find 9 = .ok (.getfield 35, 3) := by decide +kernel
theorem dX10_find_12 : decode cX10_find 12 = .ok (.iload_n 3, 1) := by decide +kernel
theorem dX10_find_13 : decode cX10_find 13 = .ok (.if_icmp .ne 4, 3) := by decide +kernel
theorem dX10_find_16 : decode cX10_find 16 = .ok (.return_, 1) := by decide +kernel
theorem dX10_find_17 : decode cX10_find 17 = .ok (.aload_n 0, 1) := by decide +kernel
theorem dX10_find_18 : decode cX10_find 18 = .ok (.iload_n 2, 1) := by decide +kernel
theorem dX10_find_19 : decode cX10_find 19 = .ok (.putfield 24, 3) := by decide +kernel
theorem dX10_find_22 : decode cX10_find 22 = .ok (.aload_n 0, 1) := by decide +kernel
theorem dX10_find_23 : decode cX10_find 23 = .ok (.iload_n 3, 1) := by decide +kernel
theorem dX10_find_24 : decode cX10_find 24 = .ok (.putfield 35, 3) := by decide +kernel
theorem dX10_find_27 : decode cX10_find 27 = .ok (.aload_n 0, 1) := by decide +kernel
theorem dX10_find_28 : decode cX10_find 28 = .ok (.iconst (-1), 1) := by decide +kernel
theorem dX10_find_29 : decode cX10_find 29 = .ok (.putfield 38, 3) := by decide +kernel
theorem dX10_find_32 : decode cX10_find 32 = .ok (.aload_n 0, 1) := by decide +kernel
theorem dX10_find_33 : decode cX10_find 33 = .ok (.getfield 11, 3) := by decide +kernel
theorem dX10_find_36 : decode cX10_find 36 = .ok (.iconst 0, 1) := by decide +kernel
theorem dX10_find_37 : decode cX10_find 37 = .ok (.aaload, 1) := by decide +kernel
theorem dX10_find_38 : decode cX10_find 38 = .ok (.aload_n 1, 1) := by decide +kernel
theorem dX10_find_39 : decode cX10_find 39 = .ok (.invokevirtual 41, 3) := by decide +kernel
theorem dX10_find_42 : decode cX10_find 42 = .ok (.aload_n 0, 1) := by decide +kernel
theorem dX10_find_43 : decode cX10_find 43 = .ok (.getfield 11, 3) := by decide +kernel
theorem dX10_find_46 : decode cX10_find 46 = .ok (.iconst 0, 1) := by decide +kernel
theorem dX10_find_47 : decode cX10_find 47 = .ok (.aaload, 1) := by decide +kernel
theorem dX10_find_48 : decode cX10_find 48 = .ok (.iconst 0, 1) := by decide +kernel
theorem dX10_find_49 : decode cX10_find 49 = .ok (.aload_n 1, 1) := by decide +kernel
theorem dX10_find_50 : decode cX10_find 50 = .ok (.getfield 45, 3) := by decide +kernel
theorem dX10_find_53 : decode cX10_find 53 = .ok (.iload_n 2, 1) := by decide +kernel
theorem dX10_find_54 : decode cX10_find 54 = .ok (.iaload, 1) := by decide +kernel
theorem dX10_find_55 : decode cX10_find 55 = .ok (.invokevirtual 48, 3) := by decide +kernel
theorem dX10_find_58 : decode cX10_find 58 = .ok (.aload_n 0, 1) := by decide +kernel
theorem dX10_find_59 : decode cX10_find 59 = .ok (.iconst 0, 1) := by decide +kernel
theorem dX10_find_60 : decode cX10_find 60 = .ok (.invokevirtual 52, 3) := by decide +kernel
theorem dX10_find_63 : decode cX10_find 63 = .ok (.return_, 1) := by decide +kernel
theorem dX10_search_0 : decode cX10_search 0 = .ok (.iload_n 1, 1) := by decide +kernel
theorem dX10_search_1 : decode cX10_search 1 = .ok (.ifCond .lt 16, 3) := by decide +kernel
theorem dX10_search_4 : decode cX10_search 4 = .ok (.iload_n 1, 1) := by decide +kernel
theorem dX10_search_5 : decode cX10_search 5 = .ok (.aload_n 0, 1) := by decide +kernel
theorem dX10_search_6 : decode cX10_search 6 = .ok (.getfield 35, 3) := by decide +kernel
theorem dX10_search_9 : decode cX10_search 9 = .ok (.if_icmp .ge 8, 3) := by decide +kernel
theorem dX10_search_12 : decode cX10_search 12 = .ok (.iload_n 1, 1) := by decide +kernel
theorem dX10_search_13 : decode cX10_search 13 = .ok (.iconst 5, 1) := by decide +kernel
theorem dX10_search_14 : decode cX10_search 14 = .ok (.if_icmp .lt 4, 3) := by decide +kernel
theorem dX10_search_17 : decode cX10_search 17 = .ok (.return_, 1) := by decide +kernel
theorem dX10_search_18 : decode cX10_search 18 = .ok (.aload_n 0, 1) := by decide +kernel
theorem dX10_search_19 : decode cX10_search 19 = .ok (.getfield 11, 3) := by decide +kernel
theorem dX10_search_22 : decode cX10_search 22 = .ok (.iload_n 1, 1) := by decide +kernel
theorem dX10_search_23 : decode cX10_search 23 = .ok (.aaload, 1) := by decide +kernel
theorem dX10_search_24 : decode cX10_search 24 = .ok (.iconst 0, 1) := by decide +kernel
theorem dX10_search_25 : decode cX10_search 25 = .ok (.aload_n 0, 1) := by decide +kernel
theorem dX10_search_26 : decode cX10_search 26 = .ok (.getfield 24, 3) := by decide +kernel
theorem dX10_search_29 : decode cX10_search 29 = .ok (.aload_n 0, 1) := by decide +kernel
theorem dX10_search_30 : decode cX10_search 30 = .ok (.getfield 11, 3) := by decide +kernel
theorem dX10_search_33 : decode cX10_search 33 = .ok (.iload_n 1, 1) := by decide +kernel
theorem dX10_search_34 : decode cX10_search 34 = .ok (.aaload, 1) := by decide +kernel
theorem dX10_search_35 : decode cX10_search 35 = .ok (.getfield 45, 3) := by decide +kernel
theorem dX10_search_38 : decode cX10_search 38 = .ok (.aload_n 0, 1) := by decide +kernel
theorem dX10_search_39 : decode cX10_search 39 = .ok (.getfield 24, 3) := by decide +kernel
theorem dX10_search_42 : decode cX10_search 42 = .ok (.iaload, 1) := by decide +kernel
theorem dX10_search_43 : decode cX10_search 43 = .ok (.iload_n 1, 1) := by decide +kernel
theorem dX10_search_44 : decode cX10_search 44 = .ok (.iadd, 1) := by decide +kernel
theorem dX10_search_45 : decode cX10_search 45 = .ok (.invokevirtual 56, 3) := by decide +kernel
theorem dX10_search_48 : decode cX10_search 48 = .ok (.iconst 0, 1) := by decide +kernel
theorem dX10_search_49 : decode cX10_search 49 = .ok (.istore_n 2, 1) := by decide +kernel
theorem dX10_search_50 : decode cX10_search 50 = .ok (.iload_n 2, 1) := by decide +kernel
theorem dX10_search_51 : decode cX10_search 51 = .ok (.iconst 5, 1) := by decide +kernel
theorem dX10_search_52 : decode cX10_search 52 = .ok (.if_icmp .ge 15, 3) := by decide +kernel
theorem dX10_search_55 : decode cX10_search 55 = .ok (.aload_n 0, 1) := by decide +kernel
theorem dX10_search_56 : decode cX10_search 56 = .ok (.iload_n 1, 1) := by decide +kernel
theorem dX10_search_57 : decode cX10_search 57 = .ok (.iload_n 2, 1) := by decide +kernel
theorem dX10_search_58 : decode cX10_search 58 = .ok (.invokevirtual 60, 3) := by decide +kernel
theorem dX10_search_61 : decode cX10_search 61 = .ok (.iinc 2 1, 3) := by decide +kernel
theorem dX10_search_64 : decode cX10_search 64 = .ok (.goto (-14), 3) := by decide +kernel
theorem dX10_search_67 : decode cX10_search 67 = .ok (.return_, 1) := by decide +kernel
theorem dX10_tryStep_0 : decode cX10_tryStep 0 = .ok (.aload_n 0, 1) := by decide +kernel
theorem dX10_tryStep_1 : decode cX10_tryStep 1 = .ok (.getfield 11, 3) := by decide +kernel
theorem dX10_tryStep_4 : decode cX10_tryStep 4 = .ok (.iload_n 1, 1) := by decide +kernel
theorem dX10_tryStep_5 : decode cX10_tryStep 5 = .ok (.aaload, 1) := by decide +kernel
theorem dX10_tryStep_6 : decode cX10_tryStep 6 = .ok (.astore_n 3, 1) := by decide +kernel
theorem dX10_tryStep_7 : decode cX10_tryStep 7 = .ok (.aload_n 0, 1) := by decide +kernel
theorem dX10_tryStep_8 : decode cX10_tryStep 8 = .ok (.getfield 11, 3) := by decide +kernel
theorem dX10_tryStep_11 : decode cX10_tryStep 11 = .ok (.iload_n 1, 1) := by decide +kernel
theorem dX10_tryStep_12 : decode cX10_tryStep 12 = .ok (.iconst 1, 1) := by decide +kernel
theorem dX10_tryStep_13 : decode cX10_tryStep 13 = .ok (.iadd, 1) := by decide +kernel
theorem dX10_tryStep_14 : decode cX10_tryStep 14 = .ok (.aaload, 1) := by decide +kernel
theorem dX10_tryStep_15 : decode cX10_tryStep 15 = .ok (.astore 4, 2) := by decide +kernel
theorem dX10_tryStep_17 : decode cX10_tryStep 17 = .ok (.aload_n 3, 1) := by decide +kernel
theorem dX10_tryStep_18 : decode cX10_tryStep 18 = .ok (.getfield 45, 3) := by decide +kernel
theorem dX10_tryStep_21 : decode cX10_tryStep 21 = .ok (.aload_n 0, 1) := by decide +kernel
theorem dX10_tryStep_22 : decode cX10_tryStep 22 = .ok (.getfield 24, 3) := by decide +kernel
theorem dX10_tryStep_25 : decode cX10_tryStep 25 = .ok (.iaload, 1) := by decide +kernel
theorem dX10_tryStep_26 : decode cX10_tryStep 26 = .ok (.iload_n 1, 1) := by decide +kernel
theorem dX10_tryStep_27 : decode cX10_tryStep 27 = .ok (.iadd, 1) := by decide +kernel
theorem dX10_tryStep_28 : decode cX10_tryStep 28 = .ok (.istore 5, 2) := by decide +kernel
theorem dX10_tryStep_30 : decode cX10_tryStep 30 = .ok (.aload_n 0, 1) := by decide +kernel
theorem dX10_tryStep_31 : decode cX10_tryStep 31 = .ok (.getfield 28, 3) := by decide +kernel
theorem dX10_tryStep_34 : decode cX10_tryStep 34 = .ok (.aload_n 3, 1) := by decide +kernel
theorem dX10_tryStep_35 : decode cX10_tryStep 35 = .ok (.getfield 63, 3) := by decide +kernel
theorem dX10_tryStep_38 : decode cX10_tryStep 38 = .ok (.aload_n 0, 1) := by decide +kernel
theorem dX10_tryStep_39 : decode cX10_tryStep 39 = .ok (.getfield 24, 3) := by decide +kernel
theorem dX10_tryStep_42 : decode cX10_tryStep 42 = .ok (.iaload, 1) := by decide +kernel
theorem dX10_tryStep_43 : decode cX10_tryStep 43 = .ok (.iload_n 2, 1) := by decide +kernel
theorem dX10_tryStep_44 : decode cX10_tryStep 44 = .ok (.invokevirtual 66, 3) := by decide +kernel
theorem dX10_tryStep_47 : decode cX10_tryStep 47 = .ok (.istore 6, 2) := by decide +kernel
theorem dX10_tryStep_49 : decode cX10_tryStep 49 = .ok (.iload 6, 2) := by decide +kernel
theorem dX10_tryStep_51 : decode cX10_tryStep 51 = .ok (.iconst (-1), 1) := by decide +kernel
theorem dX10_tryStep_52 : decode cX10_tryStep 52 = .ok (.if_icmp .ne 4, 3) := by decide +kernel
theorem dX10_tryStep_55 : decode cX10_tryStep 55 = .ok (.return_, 1) := by decide +kernel
theorem dX10_tryStep_56 : decode cX10_tryStep 56 = .ok (.aload_n 0, 1) := by decide +kernel
theorem dX10_tryStep_57 : decode cX10_tryStep 57 = .ok (.getfield 17, 3) := by decide +kernel
theorem dX10_tryStep_60 : decode cX10_tryStep 60 = .ok (.iload_n 1, 1) := by decide +kernel
theorem dX10_tryStep_61 : decode cX10_tryStep 61 = .ok (.iload_n 2, 1) := by decide +kernel
theorem dX10_tryStep_62 : decode cX10_tryStep 62 = .ok (.iastore, 1) := by decide +kernel
theorem dX10_tryStep_63 : decode cX10_tryStep 63 = .ok (.aload 4, 2) := by decide +kernel
theorem dX10_tryStep_65 : decode cX10_tryStep 65 = .ok (.aload_n 3, 1) := by decide +kernel
theorem dX10_tryStep_66 : decode cX10_tryStep 66 = .ok (.invokevirtual 41, 3) := by decide +kernel
theorem dX10_tryStep_69 : decode cX10_tryStep 69 = .ok (.aload 4, 2) := by decide +kernel
theorem dX10_tryStep_71 : decode cX10_tryStep 71 = .ok (.aload_n 0, 1) := by decide +kernel
theorem dX10_tryStep_72 : decode cX10_tryStep 72 = .ok (.getfield 24, 3) := by decide +kernel
theorem dX10_tryStep_75 : decode cX10_tryStep 75 = .ok (.iload 6, 2) := by decide +kernel
theorem dX10_tryStep_77 : decode cX10_tryStep 77 = .ok (.iload 5, 2) := by decide +kernel
theorem dX10_tryStep_79 : decode cX10_tryStep 79 = .ok (.invokevirtual 72, 3) := by decide +kernel
theorem dX10_tryStep_82 : decode cX10_tryStep 82 = .ok (.iload_n 1, 1) := by decide +kernel
theorem dX10_tryStep_83 : decode cX10_tryStep 83 = .ok (.iconst 1, 1) := by decide +kernel
theorem dX10_tryStep_84 : decode cX10_tryStep 84 = .ok (.iadd, 1) := by decide +kernel
theorem dX10_tryStep_85 : decode cX10_tryStep 85 = .ok (.aload_n 0, 1) := by decide +kernel
theorem dX10_tryStep_86 : decode cX10_tryStep 86 = .ok (.getfield 35, 3) := by decide +kernel
theorem dX10_tryStep_89 : decode cX10_tryStep 89 = .ok (.if_icmp .ne 18, 3) := by decide +kernel
theorem dX10_tryStep_92 : decode cX10_tryStep 92 = .ok (.aload_n 0, 1) := by decide +kernel
theorem dX10_tryStep_93 : decode cX10_tryStep 93 = .ok (.aload 4, 2) := by decide +kernel
theorem dX10_tryStep_95 : decode cX10_tryStep 95 = .ok (.getfield 75, 3) := by decide +kernel
theorem dX10_tryStep_98 : decode cX10_tryStep 98 = .ok (.aload_n 0, 1) := by decide +kernel
theorem dX10_tryStep_99 : decode cX10_tryStep 99 = .ok (.getfield 24, 3) := by decide +kernel
theorem dX10_tryStep_102 : decode cX10_tryStep 102 = .ok (.iaload, 1) := by decide +kernel
theorem dX10_tryStep_103 : decode cX10_tryStep 103 = .ok (.invokevirtual 78, 3) := by decide +kernel
theorem dX10_tryStep_106 : decode cX10_tryStep 106 = .ok (.return_, 1) := by decide +kernel
theorem dX10_tryStep_107 : decode cX10_tryStep 107 = .ok (.aload 4, 2) := by decide +kernel
theorem dX10_tryStep_109 : decode cX10_tryStep 109 = .ok (.aload_n 0, 1) := by decide +kernel
theorem dX10_tryStep_110 : decode cX10_tryStep 110 = .ok (.getfield 24, 3) := by decide +kernel
theorem dX10_tryStep_113 : decode cX10_tryStep 113 = .ok (.iconst 1, 1) := by decide +kernel
theorem dX10_tryStep_114 : decode cX10_tryStep 114 = .ok (.iadd, 1) := by decide +kernel
theorem dX10_tryStep_115 : decode cX10_tryStep 115 = .ok (.aload_n 0, 1) := by decide +kernel
theorem dX10_tryStep_116 : decode cX10_tryStep 116 = .ok (.getfield 28, 3) := by decide +kernel
theorem dX10_tryStep_119 : decode cX10_tryStep 119 = .ok (.getfield 81, 3) := by decide +kernel
theorem dX10_tryStep_122 : decode cX10_tryStep 122 = .ok (.iload 5, 2) := by decide +kernel
theorem dX10_tryStep_124 : decode cX10_tryStep 124 = .ok (.invokevirtual 56, 3) := by decide +kernel
theorem dX10_tryStep_127 : decode cX10_tryStep 127 = .ok (.aload 4, 2) := by decide +kernel
theorem dX10_tryStep_129 : decode cX10_tryStep 129 = .ok (.iload 5, 2) := by decide +kernel
theorem dX10_tryStep_131 : decode cX10_tryStep 131 = .ok (.invokevirtual 84, 3) := by decide +kernel
theorem dX10_tryStep_134 : decode cX10_tryStep 134 = .ok (.aload_n 0, 1) := by decide +kernel
theorem dX10_tryStep_135 : decode cX10_tryStep 135 = .ok (.iload_n 1, 1) := by decide +kernel
theorem dX10_tryStep_136 : decode cX10_tryStep 136 = .ok (.iconst 1, 1) := by decide +kernel
theorem dX10_tryStep_137 : decode cX10_tryStep 137 = .ok (.iadd, 1) := by decide +kernel
theorem dX10_tryStep_138 : decode cX10_tryStep 138 = .ok (.invokevirtual 52, 3) := by decide +kernel
theorem dX10_tryStep_141 : decode cX10_tryStep 141 = .ok (.return_, 1) := by decide +kernel
theorem dX10_judge_0 : decode cX10_judge 0 = .ok (.iload_n 1, 1) := by decide +kernel
theorem dX10_judge_1 : decode cX10_judge 1 = .ok (.aload_n 0, 1) := by decide +kernel
theorem dX10_judge_2 : decode cX10_judge 2 = .ok (.getfield 38, 3) := by decide +kernel
theorem dX10_judge_5 : decode cX10_judge 5 = .ok (.if_icmp .le 22, 3) := by decide +kernel
theorem dX10_judge_8 : decode cX10_judge 8 = .ok (.aload_n 0, 1) := by decide +kernel
theorem dX10_judge_9 : decode cX10_judge 9 = .ok (.iload_n 1, 1) := by decide +kernel
theorem dX10_judge_10 : decode cX10_judge 10 = .ok (.putfield 38, 3) := by decide +kernel
theorem dX10_judge_13 : decode cX10_judge 13 = .ok (.aload_n 0, 1) := by decide +kernel
theorem dX10_judge_14 : decode cX10_judge 14 = .ok (.getfield 17, 3) := by decide +kernel
theorem dX10_judge_17 : decode cX10_judge 17 = .ok (.iconst 0, 1) := by decide +kernel
theorem dX10_judge_18 : decode cX10_judge 18 = .ok (.aload_n 0, 1) := by decide +kernel
theorem dX10_judge_19 : decode cX10_judge 19 = .ok (.getfield 21, 3) := by decide +kernel
theorem dX10_judge_22 : decode cX10_judge 22 = .ok (.iconst 0, 1) := by decide +kernel
theorem dX10_judge_23 : decode cX10_judge 23 = .ok (.iconst 5, 1) := by decide +kernel
theorem dX10_judge_24 : decode cX10_judge 24 = .ok (.invokestatic 87, 3) := by decide +kernel
theorem dX10_judge_27 : decode cX10_judge 27 = .ok (.return_, 1) := by decide +kernel
theorem dX11_init_0 : decode cX11_init 0 = .ok (.aload_n 0, 1) := by decide +kernel
theorem dX11_init_1 : decode cX11_init 1 = .ok (.invokespecial 3, 3) := by decide +kernel
theorem dX11_init_4 : decode cX11_init 4 = .ok (.aload_n 0, 1) := by decide +kernel
theorem dX11_init_5 : decode cX11_init 5 = .ok (.sipush 1600, 3) := by decide +kernel
theorem dX11_init_8 : decode cX11_init 8 = .ok (.newarray .int, 2) := by decide +kernel
theorem dX11_init_10 : decode cX11_init 10 = .ok (.putfield 9, 3) := by decide +kernel
theorem dX11_init_13 : decode cX11_init 13 = .ok (.aload_n 0, 1) := by decide +kernel
theorem dX11_init_14 : decode cX11_init 14 = .ok (.new 13, 3) := by decide +kernel
theorem dX11_init_17 : decode cX11_init 17 = .ok (.dup, 1) := by decide +kernel
theorem dX11_init_18 : decode cX11_init 18 = .ok (.invokespecial 15, 3) := by decide +kernel
theorem dX11_init_21 : decode cX11_init 21 = .ok (.putfield 16, 3) := by decide +kernel
theorem dX11_init_24 : decode cX11_init 24 = .ok (.aload_n 0, 1) := by decide +kernel
theorem dX11_init_25 : decode cX11_init 25 = .ok (.new 20, 3) := by decide +kernel
theorem dX11_init_28 : decode cX11_init 28 = .ok (.dup, 1) := by decide +kernel
theorem dX11_init_29 : decode cX11_init 29 = .ok (.invokespecial 22, 3) := by decide +kernel
theorem dX11_init_32 : decode cX11_init 32 = .ok (.putfield 23, 3) := by decide +kernel
theorem dX11_init_35 : decode cX11_init 35 = .ok (.aload_n 0, 1) := by decide +kernel
theorem dX11_init_36 : decode cX11_init 36 = .ok (.new 27, 3) := by decide +kernel
theorem dX11_init_39 : decode cX11_init 39 = .ok (.dup, 1) := by decide +kernel
theorem dX11_init_40 : decode cX11_init 40 = .ok (.invokespecial 29, 3) := by decide +kernel
theorem dX11_init_43 : decode cX11_init 43 = .ok (.putfield 30, 3) := by decide +kernel
theorem dX11_init_46 : decode cX11_init 46 = .ok (.aload_n 0, 1) := by decide +kernel
theorem dX11_init_47 : decode cX11_init 47 = .ok (.new 27, 3) := by decide +kernel
theorem dX11_init_50 : decode cX11_init 50 = .ok (.dup, 1) := by decide +kernel
theorem dX11_init_51 : decode cX11_init 51 = .ok (.invokespecial 29, 3) := by decide +kernel
theorem dX11_init_54 : decode cX11_init 54 = .ok (.putfield 34, 3) := by decide +kernel
theorem dX11_init_57 : decode cX11_init 57 = .ok (.aload_n 0, 1) := by decide +kernel
theorem dX11_init_58 : decode cX11_init 58 = .ok (.new 37, 3) := by decide +kernel
theorem dX11_init_61 : decode cX11_init 61 = .ok (.dup, 1) := by decide +kernel
theorem dX11_init_62 : decode cX11_init 62 = .ok (.invokespecial 39, 3) := by decide +kernel
theorem dX11_init_65 : decode cX11_init 65 = .ok (.putfield 40, 3) := by decide +kernel
theorem dX11_init_68 : decode cX11_init 68 = .ok (.aload_n 0, 1) := by decide +kernel
theorem dX11_init_69 : decode cX11_init 69 = .ok (.new 44, 3) := by decide +kernel
theorem dX11_init_72 : decode cX11_init 72 = .ok (.dup, 1) := by decide +kernel
theorem dX11_init_73 : decode cX11_init 73 = .ok (.aload_n 0, 1) := by decide +kernel
theorem dX11_init_74 : decode cX11_init 74 = .ok (.getfield 16, 3) := by decide +kernel
theorem dX11_init_77 : decode cX11_init 77 = .ok (.invokespecial 46, 3) := by decide +kernel
theorem dX11_init_80 : decode cX11_init 80 = .ok (.putfield 49, 3) := by decide +kernel
theorem dX11_init_83 : decode cX11_init 83 = .ok (.aload_n 0, 1) := by decide +kernel
theorem dX11_init_84 : decode cX11_init 84 = .ok (.new 53, 3) := by decide +kernel
theorem dX11_init_87 : decode cX11_init 87 = .ok (.dup, 1) := by decide +kernel
theorem dX11_init_88 : decode cX11_init 88 = .ok (.aload_n 0, 1) := by decide +kernel
theorem dX11_init_89 : decode cX11_init 89 = .ok (.getfield 16, 3) := by decide +kernel
theorem dX11_init_92 : decode cX11_init 92 = .ok (.invokespecial 55, 3) := by decide +kernel
theorem dX11_init_95 : decode cX11_init 95 = .ok (.putfield 56, 3) := by decide +kernel
theorem dX11_init_98 : decode cX11_init 98 = .ok (.aload_n 0, 1) := by decide +kernel
theorem dX11_init_99 : decode cX11_init 99 = .ok (.new 60, 3) := by decide +kernel
theorem dX11_init_102 : decode cX11_init 102 = .ok (.dup, 1) := by decide +kernel
theorem dX11_init_103 : decode cX11_init 103 = .ok (.aload_n 0, 1) := by decide +kernel
theorem dX11_init_104 : decode cX11_init 104 = .ok (.getfield 16, 3) := by decide +kernel
theorem dX11_init_107 : decode cX11_init 107 = .ok (.invokespecial 62, 3) := by decide +kernel
theorem dX11_init_110 : decode cX11_init 110 = .ok (.putfield 63, 3) := by decide +kernel
theorem dX11_init_113 : decode cX11_init 113 = .ok (.aload_n 0, 1) := by decide +kernel
theorem dX11_init_114 : decode cX11_init 114 = .ok (.new 67, 3) := by decide +kernel
theorem dX11_init_117 : decode cX11_init 117 = .ok (.dup, 1) := by decide +kernel
theorem dX11_init_118 : decode cX11_init 118 = .ok (.aload_n 0, 1) := by decide +kernel
theorem dX11_init_119 : decode cX11_init 119 = .ok (.getfield 16, 3) := by decide +kernel
theorem dX11_init_122 : decode cX11_init 122 = .ok (.invokespecial 69, 3) := by decide +kernel
theorem dX11_init_125 : decode cX11_init 125 = .ok (.putfield 70, 3) := by decide +kernel
theorem dX11_init_128 : decode cX11_init 128 = .ok (.aload_n 0, 1) := by decide +kernel
theorem dX11_init_129 : decode cX11_init 129 = .ok (.new 74, 3) := by decide +kernel
theorem dX11_init_132 : decode cX11_init 132 = .ok (.dup, 1) := by decide +kernel
theorem dX11_init_133 : decode cX11_init 133 = .ok (.aload_n 0, 1) := by decide +kernel
theorem dX11_init_134 : decode cX11_init 134 = .ok (.getfield 16, 3) := by decide +kernel
theorem dX11_init_137 : decode cX11_init 137 = .ok (.invokespecial 76, 3) := by decide +kernel
theorem dX11_init_140 : decode cX11_init 140 = .ok (.putfield 77, 3) := by decide +kernel
theorem dX11_init_143 : decode cX11_init 143 = .ok (.aload_n 0, 1) := by decide +kernel
theorem dX11_init_144 : decode cX11_init 144 = .ok (.new 81, 3) := by decide +kernel
theorem dX11_init_147 : decode cX11_init 147 = .ok (.dup, 1) := by decide +kernel
theorem dX11_init_148 : decode cX11_init 148 = .ok (.invokespecial 83, 3) := by decide +kernel
theorem dX11_init_151 : decode cX11_init 151 = .ok (.putfield 84, 3) := by decide +kernel
theorem dX11_init_154 : decode cX11_init 154 = .ok (.aload_n 0, 1) := by decide +kernel
theorem dX11_init_155 : decode cX11_init 155 = .ok (.bipush 6, 2) := by decide +kernel
theorem dX11_init_157 : decode cX11_init 157 = .ok (.newarray .int, 2) := by decide +kernel
theorem dX11_init_159 : decode cX11_init 159 = .ok (.putfield 88, 3) := by decide +kernel
theorem dX11_init_162 : decode cX11_init 162 = .ok (.aload_n 0, 1) := by decide +kernel
theorem dX11_init_163 : decode cX11_init 163 = .ok (.iconst 1, 1) := by decide +kernel
theorem dX11_init_164 : decode cX11_init 164 = .ok (.putfield 91, 3) := by decide +kernel
theorem dX11_init_167 : decode cX11_init 167 = .ok (.return_, 1) := by decide +kernel
theorem dX11_feed_0 : decode cX11_feed 0 = .ok (.aload_n 0, 1) := by decide +kernel
theorem dX11_feed_1 : decode cX11_feed 1 = .ok (.getfield 95, 3) := by decide +kernel
theorem dX11_feed_4 : decode cX11_feed 4 = .ok (.bipush 20, 2) := by decide +kernel
theorem dX11_feed_6 : decode cX11_feed 6 = .ok (.iadd, 1) := by decide +kernel
theorem dX11_feed_7 : decode cX11_feed 7 = .ok (.sipush 1600, 3) := by decide +kernel
theorem dX11_feed_10 : decode cX11_feed 10 = .ok (.if_icmp .le 9, 3) := by decide +kernel
theorem dX11_feed_13 : decode cX11_feed 13 = .ok (.aload_n 0, 1) := by decide +kernel
theorem dX11_feed_14 : decode cX11_feed 14 = .ok (.iconst 0, 1) := by decide +kernel
theorem dX11_feed_15 : decode cX11_feed 15 = .ok (.invokevirtual 98, 3) := by decide +kernel
theorem dX11_feed_18 : decode cX11_feed 18 = .ok (.ireturn, 1) := by decide +kernel
theorem dX11_feed_19 : decode cX11_feed 19 = .ok (.aload_n 0, 1) := by decide +kernel
theorem dX11_feed_20 : decode cX11_feed 20 = .ok (.iload_n 1, 1) := by decide +kernel
theorem dX11_feed_21 : decode cX11_feed 21 = .ok (.invokevirtual 102, 3) := by decide +kernel
theorem dX11_feed_24 : decode cX11_feed 24 = .ok (.aload_n 0, 1) := by decide +kernel
theorem dX11_feed_25 : decode cX11_feed 25 = .ok (.iload_n 2, 1) := by decide +kernel
theorem dX11_feed_26 : decode cX11_feed 26 = .ok (.invokevirtual 102, 3) := by decide +kernel
theorem dX11_feed_29 : decode cX11_feed 29 = .ok (.aload_n 0, 1) := by decide +kernel
theorem dX11_feed_30 : decode cX11_feed 30 = .ok (.iload_n 3, 1) := by decide +kernel
theorem dX11_feed_31 : decode cX11_feed 31 = .ok (.invokevirtual 102, 3) := by decide +kernel
theorem dX11_feed_34 : decode cX11_feed 34 = .ok (.aload_n 0, 1) := by decide +kernel
theorem dX11_feed_35 : decode cX11_feed 35 = .ok (.iload 4, 2) := by decide +kernel
theorem dX11_feed_37 : decode cX11_feed 37 = .ok (.invokevirtual 102, 3) := by decide +kernel
theorem dX11_feed_40 : decode cX11_feed 40 = .ok (.aload_n 0, 1) := by decide +kernel
theorem dX11_feed_41 : decode cX11_feed 41 = .ok (.iload 5, 2) := by decide +kernel
theorem dX11_feed_43 : decode cX11_feed 43 = .ok (.invokevirtual 102, 3) := by decide +kernel
theorem dX11_feed_46 : decode cX11_feed 46 = .ok (.aload_n 0, 1) := by decide +kernel
theorem dX11_feed_47 : decode cX11_feed 47 = .ok (.getfield 95, 3) := by decide +kernel
theorem dX11_feed_50 : decode cX11_feed 50 = .ok (.ireturn, 1) := by decide +kernel
theorem dX11_end_0 : decode cX11_end 0 = .ok (.iload_n 1, 1) := by decide +kernel
theorem dX11_end_1 : decode cX11_end 1 = .ok (.ifCond .lt 11, 3) := by decide +kernel
theorem dX11_end_4 : decode cX11_end 4 = .ok (.iload_n 1, 1) := by decide +kernel
theorem dX11_end_5 : decode cX11_end 5 = .ok (.aload_n 0, 1) := by decide +kernel
theorem dX11_end_6 : decode cX11_end 6 = .ok (.getfield 95, 3) := by decide +kernel
theorem dX11_end_9 : decode cX11_end 9 = .ok (.if_icmp .le 11, 3) := by decide +kernel
theorem dX11_end_12 : decode cX11_end 12 = .ok (.aload_n 0, 1) := by decide +kernel
theorem dX11_end_13 : decode cX11_end 13 = .ok (.iconst 0, 1) := by decide +kernel
theorem dX11_end_14 : decode cX11_end 14 = .ok (.invokevirtual 98, 3) := by decide +kernel
theorem dX11_end_17 : decode cX11_end 17 = .ok (.pop, 1) := by decide +kernel
theorem dX11_end_18 : decode cX11_end 18 = .ok (.iconst 0, 1) := by decide +kernel
theorem dX11_end_19 : decode cX11_end 19 = .ok (.ireturn, 1) := by decide +kernel
theorem dX11_end_20 : decode cX11_end 20 = .ok (.aload_n 0, 1) := by decide +kernel
theorem dX11_end_21 : decode cX11_end 21 = .ok (.iload_n 1, 1) := by decide +kernel
theorem dX11_end_22 : decode cX11_end 22 = .ok (.putfield 95, 3) := by decide +kernel
theorem dX11_end_25 : decode cX11_end 25 = .ok (.iconst 1, 1) := by decide +kernel
theorem dX11_end_26 : decode cX11_end 26 = .ok (.ireturn, 1) := by decide +kernel
theorem dX11_valley_0 : decode cX11_valley 0 = .ok (.aload_n 0, 1) := by decide +kernel
theorem dX11_valley_1 : decode cX11_valley 1 = .ok (.getfield 23, 3) := by decide +kernel
theorem dX11_valley_4 : decode cX11_valley 4 = .ok (.aload_n 0, 1) := by decide +kernel
theorem dX11_valley_5 : decode cX11_valley 5 = .ok (.getfield 9, 3) := by decide +kernel
theorem dX11_valley_8 : decode cX11_valley 8 = .ok (.aload_n 0, 1) := by decide +kernel
theorem dX11_valley_9 : decode cX11_valley 9 = .ok (.getfield 95, 3) := by decide +kernel
theorem dX11_valley_12 : decode cX11_valley 12 = .ok (.invokevirtual 106, 3) := by decide +kernel
theorem dX11_valley_15 : decode cX11_valley 15 = .ok (.istore_n 1, 1) := by decide +kernel
theorem dX11_valley_16 : decode cX11_valley 16 = .ok (.aload_n 0, 1) := by decide +kernel
theorem dX11_valley_17 : decode cX11_valley 17 = .ok (.iconst 0, 1) := by decide +kernel
theorem dX11_valley_18 : decode cX11_valley 18 = .ok (.putfield 95, 3) := by decide +kernel
theorem dX11_valley_21 : decode cX11_valley 21 = .ok (.iload_n 1, 1) := by decide +kernel
theorem dX11_valley_22 : decode cX11_valley 22 = .ok (.ifCond .ne 9, 3) := by decide +kernel
theorem dX11_valley_25 : decode cX11_valley 25 = .ok (.aload_n 0, 1) := by decide +kernel
theorem dX11_valley_26 : decode cX11_valley 26 = .ok (.iconst 1, 1) := by decide +kernel
theorem dX11_valley_27 : decode cX11_valley 27 = .ok (.invokevirtual 98, 3) := by decide +kernel
theorem dX11_valley_30 : decode cX11_valley 30 = .ok (.ireturn, 1) := by decide +kernel
theorem dX11_valley_31 : decode cX11_valley 31 = .ok (.aload_n 0, 1) := by decide +kernel
theorem dX11_valley_32 : decode cX11_valley 32 = .ok (.getfield 16, 3) := by decide +kernel
theorem dX11_valley_35 : decode cX11_valley 35 = .ok (.aload_n 0, 1) := by decide +kernel
theorem dX11_valley_36 : decode cX11_valley 36 = .ok (.getfield 23, 3) := by decide +kernel
theorem dX11_valley_39 : decode cX11_valley 39 = .ok (.getfield 110, 3) := by decide +kernel
theorem dX11_valley_42 : decode cX11_valley 42 = .ok (.invokevirtual 111, 3) := by decide +kernel
theorem dX11_valley_45 : decode cX11_valley 45 = .ok (.aload_n 0, 1) := by decide +kernel
theorem dX11_valley_46 : decode cX11_valley 46 = .ok (.getfield 30, 3) := by decide +kernel
theorem dX11_valley_49 : decode cX11_valley 49 = .ok (.aload_n 0, 1) := by decide +kernel
theorem dX11_valley_50 : decode cX11_valley 50 = .ok (.getfield 16, 3) := by decide +kernel
theorem dX11_valley_53 : decode cX11_valley 53 = .ok (.invokevirtual 114, 3) := by decide +kernel
theorem dX11_valley_56 : decode cX11_valley 56 = .ok (.aload_n 0, 1) := by decide +kernel
theorem dX11_valley_57 : decode cX11_valley 57 = .ok (.getfield 40, 3) := by decide +kernel
theorem dX11_valley_60 : decode cX11_valley 60 = .ok (.invokevirtual 117, 3) := by decide +kernel
theorem dX11_valley_63 : decode cX11_valley 63 = .ok (.aload_n 0, 1) := by decide +kernel
theorem dX11_valley_64 : decode cX11_valley 64 = .ok (.getfield 77, 3) := by decide +kernel
theorem dX11_valley_67 : decode cX11_valley 67 = .ok (.invokevirtual 120, 3) := by decide +kernel
theorem dX11_valley_70 : decode cX11_valley 70 = .ok (.aload_n 0, 1) := by decide +kernel
theorem dX11_valley_71 : decode cX11_valley 71 = .ok (.invokevirtual 123, 3) := by decide +kernel
theorem dX11_valley_74 : decode cX11_valley 74 = .ok (.aload_n 0, 1) := by decide +kernel
theorem dX11_valley_75 : decode cX11_valley 75 = .ok (.getfield 16, 3) := by decide +kernel
theorem dX11_valley_78 : decode cX11_valley 78 = .ok (.getfield 126, 3) := by decide +kernel
theorem dX11_valley_81 : decode cX11_valley 81 = .ok (.ireturn, 1) := by decide +kernel
theorem dX11_fault_0 : decode cX11_fault 0 = .ok (.iload_n 1, 1) := by decide +kernel
theorem dX11_fault_1 : decode cX11_fault 1 = .ok (.ifCond .ne 11, 3) := by decide +kernel
theorem dX11_fault_4 : decode cX11_fault 4 = .ok (.aload_n 0, 1) := by decide +kernel
theorem dX11_fault_5 : decode cX11_fault 5 = .ok (.getfield 23, 3) := by decide +kernel
theorem dX11_fault_8 : decode cX11_fault 8 = .ok (.getfield 129, 3) := by decide +kernel
theorem dX11_fault_11 : decode cX11_fault 11 = .ok (.ireturn, 1) := by decide +kernel
theorem dX11_fault_12 : decode cX11_fault 12 = .ok (.iload_n 1, 1) := by decide +kernel
theorem dX11_fault_13 : decode cX11_fault 13 = .ok (.iconst 1, 1) := by decide +kernel
theorem dX11_fault_14 : decode cX11_fault 14 = .ok (.if_icmp .ne 13, 3) := by decide +kernel
theorem dX11_fault_17 : decode cX11_fault 17 = .ok (.aload_n 0, 1) := by decide +kernel
theorem dX11_fault_18 : decode cX11_fault 18 = .ok (.getfield 23, 3) := by decide +kernel
theorem dX11_fault_21 : decode cX11_fault 21 = .ok (.getfield 132, 3) := by decide +kernel
theorem dX11_fault_24 : decode cX11_fault 24 = .ok (.goto 4, 3) := by decide +kernel
theorem dX11_fault_27 : decode cX11_fault 27 = .ok (.iconst (-1), 1) := by decide +kernel
theorem dX11_fault_28 : decode cX11_fault 28 = .ok (.ireturn, 1) := by decide +kernel
theorem dX11_has_0 : decode cX11_has 0 = .ok (.iload_n 1, 1) := by decide +kernel
theorem dX11_has_1 : decode cX11_has 1 = .ok (.tableswitch 152 0 9 #[55, 63, 71, 79, 87, 105, 123, 131, 139, 147], 55) := by decide +kernel
theorem dX11_has_56 : decode cX11_has 56 = .ok (.aload_n 0, 1) := by decide +kernel
theorem dX11_has_57 : decode cX11_has 57 = .ok (.getfield 16, 3) := by decide +kernel
theorem dX11_has_60 : decode cX11_has 60 = .ok (.getfield 135, 3) := by decide +kernel
theorem dX11_has_63 : decode cX11_has 63 = .ok (.ireturn, 1) := by decide +kernel
theorem dX11_has_64 : decode cX11_has 64 = .ok (.aload_n 0, 1) := by decide +kernel
theorem dX11_has_65 : decode cX11_has 65 = .ok (.getfield 16, 3) := by decide +kernel
theorem dX11_has_68 : decode cX11_has 68 = .ok (.getfield 138, 3) := by decide +kernel
theorem dX11_has_71 : decode cX11_has 71 = .ok (.ireturn, 1) := by decide +kernel
theorem dX11_has_72 : decode cX11_has 72 = .ok (.aload_n 0, 1) := by decide +kernel
theorem dX11_has_73 : decode cX11_has 73 = .ok (.getfield 16, 3) := by decide +kernel
theorem dX11_has_76 : decode cX11_has 76 = .ok (.getfield 141, 3) := by decide +kernel
theorem dX11_has_79 : decode cX11_has 79 = .ok (.ireturn, 1) := by decide +kernel
theorem dX11_has_80 : decode cX11_has 80 = .ok (.aload_n 0, 1) := by decide +kernel
theorem dX11_has_81 : decode cX11_has 81 = .ok (.getfield 30, 3) := by decide +kernel
theorem dX11_has_84 : decode cX11_has 84 = .ok (.getfield 144, 3) := by decide +kernel
theorem dX11_has_87 : decode cX11_has 87 = .ok (.ireturn, 1) := by decide +kernel
theorem dX11_has_88 : decode cX11_has 88 = .ok (.aload_n 0, 1) := by decide +kernel
theorem dX11_has_89 : decode cX11_has 89 = .ok (.getfield 30, 3) := by decide +kernel
theorem dX11_has_92 : decode cX11_has 92 = .ok (.getfield 147, 3) := by decide +kernel
theorem dX11_has_95 : decode cX11_has 95 = .ok (.aload_n 0, 1) := by decide +kernel
theorem dX11_has_96 : decode cX11_has 96 = .ok (.getfield 16, 3) := by decide +kernel
theorem dX11_has_99 : decode cX11_has 99 = .ok (.getfield 150, 3) := by decide +kernel
theorem dX11_has_102 : decode cX11_has 102 = .ok (.invokestatic 153, 3) := by decide +kernel
theorem dX11_has_105 : decode cX11_has 105 = .ok (.ireturn, 1) := by decide +kernel
theorem dX11_has_106 : decode cX11_has 106 = .ok (.aload_n 0, 1) := by decide +kernel
theorem dX11_has_107 : decode cX11_has 107 = .ok (.getfield 30, 3) := by decide +kernel
theorem dX11_has_110 : decode cX11_has 110 = .ok (.getfield 157, 3) := by decide +kernel
theorem dX11_has_113 : decode cX11_has 113 = .ok (.aload_n 0, 1) := by decide +kernel
theorem dX11_has_114 : decode cX11_has 114 = .ok (.getfield 16, 3) := by decide +kernel
theorem dX11_has_117 : decode cX11_has 117 = .ok (.getfield 141, 3) := by decide +kernel
theorem dX11_has_120 : decode cX11_has 120 = .ok (.invokestatic 153, 3) := by decide +kernel
theorem dX11_has_123 : decode cX11_has 123 = .ok (.ireturn, 1) := by decide +kernel
theorem dX11_has_124 : decode cX11_has 124 = .ok (.aload_n 0, 1) := by decide +kernel
theorem dX11_has_125 : decode cX11_has 125 = .ok (.getfield 30, 3) := by decide +kernel
theorem dX11_has_128 : decode cX11_has 128 = .ok (.getfield 160, 3) := by decide +kernel
theorem dX11_has_131 : decode cX11_has 131 = .ok (.ireturn, 1) := by decide +kernel
theorem dX11_has_132 : decode cX11_has 132 = .ok (.aload_n 0, 1) := by decide +kernel
theorem dX11_has_133 : decode cX11_has 133 = .ok (.getfield 77, 3) := by decide +kernel
theorem dX11_has_136 : decode cX11_has 136 = .ok (.getfield 163, 3) := by decide +kernel
theorem dX11_has_139 : decode cX11_has 139 = .ok (.ireturn, 1) := by decide +kernel
theorem dX11_has_140 : decode cX11_has 140 = .ok (.aload_n 0, 1) := by decide +kernel
theorem dX11_has_141 : decode cX11_has 141 = .ok (.getfield 40, 3) := by decide +kernel
theorem dX11_has_144 : decode cX11_has 144 = .ok (.getfield 166, 3) := by decide +kernel
theorem dX11_has_147 : decode cX11_has 147 = .ok (.ireturn, 1) := by decide +kernel
theorem dX11_has_148 : decode cX11_has 148 = .ok (.aload_n 0, 1) := by decide +kernel
theorem dX11_has_149 : decode cX11_has 149 = .ok (.getfield 91, 3) := by decide +kernel
theorem dX11_has_152 : decode cX11_has 152 = .ok (.ireturn, 1) := by decide +kernel
theorem dX11_has_153 : decode cX11_has 153 = .ok (.iconst (-1), 1) := by decide +kernel
theorem dX11_has_154 : decode cX11_has 154 = .ok (.ireturn, 1) := by decide +kernel
theorem dX11_letter_0 : decode cX11_letter 0 = .ok (.aload_n 0, 1) := by decide +kernel
theorem dX11_letter_1 : decode cX11_letter 1 = .ok (.getfield 16, 3) := by decide +kernel
theorem dX11_letter_4 : decode cX11_letter 4 = .ok (.iload_n 1, 1) := by decide +kernel
theorem dX11_letter_5 : decode cX11_letter 5 = .ok (.invokevirtual 169, 3) := by decide +kernel
theorem dX11_letter_8 : decode cX11_letter 8 = .ok (.ifCond .eq 13, 3) := by decide +kernel
theorem dX11_letter_11 : decode cX11_letter 11 = .ok (.iload_n 2, 1) := by decide +kernel
theorem dX11_letter_12 : decode cX11_letter 12 = .ok (.ifCond .lt 9, 3) := by decide +kernel
theorem dX11_letter_15 : decode cX11_letter 15 = .ok (.iload_n 2, 1) := by decide +kernel
theorem dX11_letter_16 : decode cX11_letter 16 = .ok (.bipush 6, 2) := by decide +kernel
theorem dX11_letter_18 : decode cX11_letter 18 = .ok (.if_icmp .lt 5, 3) := by decide +kernel
theorem dX11_letter_21 : decode cX11_letter 21 = .ok (.iconst (-1), 1) := by decide +kernel
theorem dX11_letter_22 : decode cX11_letter 22 = .ok (.ireturn, 1) := by decide +kernel
theorem dX11_letter_23 : decode cX11_letter 23 = .ok (.aload_n 0, 1) := by decide +kernel
theorem dX11_letter_24 : decode cX11_letter 24 = .ok (.getfield 16, 3) := by decide +kernel
theorem dX11_letter_27 : decode cX11_letter 27 = .ok (.getfield 173, 3) := by decide +kernel
theorem dX11_letter_30 : decode cX11_letter 30 = .ok (.iload_n 1, 1) := by decide +kernel
theorem dX11_letter_31 : decode cX11_letter 31 = .ok (.bipush 6, 2) := by decide +kernel
theorem dX11_letter_33 : decode cX11_letter 33 = .ok (.imul, 1) := by decide +kernel
theorem dX11_letter_34 : decode cX11_letter 34 = .ok (.iload_n 2, 1) := by decide +kernel
theorem dX11_letter_35 : decode cX11_letter 35 = .ok (.iadd, 1) := by decide +kernel
theorem dX11_letter_36 : decode cX11_letter 36 = .ok (.iaload, 1) := by decide +kernel
theorem dX11_letter_37 : decode cX11_letter 37 = .ok (.ireturn, 1) := by decide +kernel
theorem dX11_cell_0 : decode cX11_cell 0 = .ok (.aload_n 0, 1) := by decide +kernel
theorem dX11_cell_1 : decode cX11_cell 1 = .ok (.getfield 16, 3) := by decide +kernel
theorem dX11_cell_4 : decode cX11_cell 4 = .ok (.iload_n 1, 1) := by decide +kernel
theorem dX11_cell_5 : decode cX11_cell 5 = .ok (.iload_n 2, 1) := by decide +kernel
theorem dX11_cell_6 : decode cX11_cell 6 = .ok (.invokevirtual 176, 3) := by decide +kernel
theorem dX11_cell_9 : decode cX11_cell 9 = .ok (.istore_n 3, 1) := by decide +kernel
theorem dX11_cell_10 : decode cX11_cell 10 = .ok (.iload_n 3, 1) := by decide +kernel
theorem dX11_cell_11 : decode cX11_cell 11 = .ok (.iconst (-1), 1) := by decide +kernel
theorem dX11_cell_12 : decode cX11_cell 12 = .ok (.if_icmp .ne 7, 3) := by decide +kernel
theorem dX11_cell_15 : decode cX11_cell 15 = .ok (.iconst (-1), 1) := by decide +kernel
theorem dX11_cell_16 : decode cX11_cell 16 = .ok (.goto 12, 3) := by decide +kernel
theorem dX11_cell_19 : decode cX11_cell 19 = .ok (.aload_n 0, 1) := by decide +kernel
theorem dX11_cell_20 : decode cX11_cell 20 = .ok (.getfield 30, 3) := by decide +kernel
theorem dX11_cell_23 : decode cX11_cell 23 = .ok (.getfield 147, 3) := by decide +kernel
theorem dX11_cell_26 : decode cX11_cell 26 = .ok (.iload_n 3, 1) := by decide +kernel
theorem dX11_cell_27 : decode cX11_cell 27 = .ok (.iaload, 1) := by decide +kernel
theorem dX11_cell_28 : decode cX11_cell 28 = .ok (.ireturn, 1) := by decide +kernel
theorem dX11_person_0 : decode cX11_person 0 = .ok (.aload_n 0, 1) := by decide +kernel
theorem dX11_person_1 : decode cX11_person 1 = .ok (.getfield 16, 3) := by decide +kernel
theorem dX11_person_4 : decode cX11_person 4 = .ok (.iload_n 1, 1) := by decide +kernel
theorem dX11_person_5 : decode cX11_person 5 = .ok (.invokevirtual 169, 3) := by decide +kernel
theorem dX11_person_8 : decode cX11_person 8 = .ok (.ifCond .ne 5, 3) := by decide +kernel
theorem dX11_person_11 : decode cX11_person 11 = .ok (.iconst (-1), 1) := by decide +kernel
theorem dX11_person_12 : decode cX11_person 12 = .ok (.ireturn, 1) := by decide +kernel
theorem dX11_person_13 : decode cX11_person 13 = .ok (.iload_n 2, 1) := by decide +kernel
theorem dX11_person_14 : decode cX11_person 14 = .ok (.tableswitch 112 0 5 #[38, 55, 72, 82, 92, 102], 38) := by decide +kernel
theorem dX11_person_52 : decode cX11_person 52 = .ok (.aload_n 0, 1) := by decide +kernel
theorem dX11_person_53 : decode cX11_person 53 = .ok (.getfield 16, 3) := by decide +kernel
theorem dX11_person_56 : decode cX11_person 56 = .ok (.aload_n 0, 1) := by decide +kernel
theorem dX11_person_57 : decode cX11_person 57 = .ok (.getfield 30, 3) := by decide +kernel
theorem dX11_person_60 : decode cX11_person 60 = .ok (.getfield 180, 3) := by decide +kernel
theorem dX11_person_63 : decode cX11_person 63 = .ok (.iload_n 1, 1) := by decide +kernel
theorem dX11_person_64 : decode cX11_person 64 = .ok (.iaload, 1) := by decide +kernel
theorem dX11_person_65 : decode cX11_person 65 = .ok (.invokevirtual 183, 3) := by decide +kernel
theorem dX11_person_68 : decode cX11_person 68 = .ok (.ireturn, 1) := by decide +kernel
theorem dX11_person_69 : decode cX11_person 69 = .ok (.aload_n 0, 1) := by decide +kernel
theorem dX11_person_70 : decode cX11_person 70 = .ok (.getfield 16, 3) := by decide +kernel
theorem dX11_person_73 : decode cX11_person 73 = .ok (.aload_n 0, 1) := by decide +kernel
theorem dX11_person_74 : decode cX11_person 74 = .ok (.getfield 30, 3) := by decide +kernel
theorem dX11_person_77 : decode cX11_person 77 = .ok (.getfield 180, 3) := by decide +kernel
theorem dX11_person_80 : decode cX11_person 80 = .ok (.iload_n 1, 1) := by decide +kernel
theorem dX11_person_81 : decode cX11_person 81 = .ok (.iaload, 1) := by decide +kernel
theorem dX11_person_82 : decode cX11_person 82 = .ok (.invokevirtual 186, 3) := by decide +kernel
theorem dX11_person_85 : decode cX11_person 85 = .ok (.ireturn, 1) := by decide +kernel
theorem dX11_person_86 : decode cX11_person 86 = .ok (.aload_n 0, 1) := by decide +kernel
theorem dX11_person_87 : decode cX11_person 87 = .ok (.getfield 30, 3) := by decide +kernel
theorem dX11_person_90 : decode cX11_person 90 = .ok (.getfield 189, 3) := by decide +kernel
theorem dX11_person_93 : decode cX11_person 93 = .ok (.iload_n 1, 1) := by decide +kernel
theorem dX11_person_94 : decode cX11_person 94 = .ok (.iaload, 1) := by decide +kernel
theorem dX11_person_95 : decode cX11_person 95 = .ok (.ireturn, 1) := by decide +kernel
theorem dX11_person_96 : decode cX11_person 96 = .ok (.aload_n 0, 1) := by decide +kernel
theorem dX11_person_97 : decode cX11_person 97 = .ok (.getfield 30, 3) := by decide +kernel
theorem dX11_person_100 : decode cX11_person 100 = .ok (.getfield 192, 3) := by decide +kernel
theorem dX11_person_103 : decode cX11_person 103 = .ok (.iload_n 1, 1) := by decide +kernel
theorem dX11_person_104 : decode cX11_person 104 = .ok (.iaload, 1) := by decide +kernel
theorem dX11_person_105 : decode cX11_person 105 = .ok (.ireturn, 1) := by decide +kernel
theorem dX11_person_106 : decode cX11_person 106 = .ok (.aload_n 0, 1) := by decide +kernel
theorem dX11_person_107 : decode cX11_person 107 = .ok (.getfield 16, 3) := by decide +kernel
theorem dX11_person_110 : decode cX11_person 110 = .ok (.getfield 195, 3) := by decide +kernel
theorem dX11_person_113 : decode cX11_person 113 = .ok (.iload_n 1, 1) := by decide +kernel
theorem dX11_person_114 : decode cX11_person 114 = .ok (.iaload, 1) := by decide +kernel
theorem dX11_person_115 : decode cX11_person 115 = .ok (.ireturn, 1) := by decide +kernel
theorem dX11_person_116 : decode cX11_person 116 = .ok (.aload_n 0, 1) := by decide +kernel
theorem dX11_person_117 : decode cX11_person 117 = .ok (.getfield 30, 3) := by decide +kernel
theorem dX11_person_120 : decode cX11_person 120 = .ok (.getfield 157, 3) := by decide +kernel
theorem dX11_person_123 : decode cX11_person 123 = .ok (.iload_n 1, 1) := by decide +kernel
theorem dX11_person_124 : decode cX11_person 124 = .ok (.iaload, 1) := by decide +kernel
theorem dX11_person_125 : decode cX11_person 125 = .ok (.ireturn, 1) := by decide +kernel
theorem dX11_person_126 : decode cX11_person 126 = .ok (.iconst (-1), 1) := by decide +kernel
theorem dX11_person_127 : decode cX11_person 127 = .ok (.ireturn, 1) := by decide +kernel
theorem dX11_today_0 : decode cX11_today 0 = .ok (.aload_n 0, 1) := by decide +kernel
theorem dX11_today_1 : decode cX11_today 1 = .ok (.getfield 16, 3) := by decide +kernel
theorem dX11_today_4 : decode cX11_today 4 = .ok (.iload_n 1, 1) := by decide +kernel
theorem dX11_today_5 : decode cX11_today 5 = .ok (.invokevirtual 169, 3) := by decide +kernel
theorem dX11_today_8 : decode cX11_today 8 = .ok (.ifCond .eq 19, 3) := by decide +kernel
theorem dX11_today_11 : decode cX11_today 11 = .ok (.iload_n 2, 1) := by decide +kernel
theorem dX11_today_12 : decode cX11_today 12 = .ok (.invokestatic 198, 3) := by decide +kernel
theorem dX11_today_15 : decode cX11_today 15 = .ok (.ifCond .eq 12, 3) := by decide +kernel
theorem dX11_today_18 : decode cX11_today 18 = .ok (.iload_n 3, 1) := by decide +kernel
theorem dX11_today_19 : decode cX11_today 19 = .ok (.ifCond .lt 8, 3) := by decide +kernel
theorem dX11_today_22 : decode cX11_today 22 = .ok (.iload_n 3, 1) := by decide +kernel
theorem dX11_today_23 : decode cX11_today 23 = .ok (.iconst 2, 1) := by decide +kernel
theorem dX11_today_24 : decode cX11_today 24 = .ok (.if_icmp .le 5, 3) := by decide +kernel
theorem dX11_today_27 : decode cX11_today 27 = .ok (.iconst (-1), 1) := by decide +kernel
theorem dX11_today_28 : decode cX11_today 28 = .ok (.ireturn, 1) := by decide +kernel
theorem dX11_today_29 : decode cX11_today 29 = .ok (.aload_n 0, 1) := by decide +kernel
theorem dX11_today_30 : decode cX11_today 30 = .ok (.getfield 56, 3) := by decide +kernel
theorem dX11_today_33 : decode cX11_today 33 = .ok (.aload_n 0, 1) := by decide +kernel
theorem dX11_today_34 : decode cX11_today 34 = .ok (.getfield 30, 3) := by decide +kernel
theorem dX11_today_37 : decode cX11_today 37 = .ok (.invokevirtual 201, 3) := by decide +kernel
theorem dX11_today_40 : decode cX11_today 40 = .ok (.iload_n 3, 1) := by decide +kernel
theorem dX11_today_41 : decode cX11_today 41 = .ok (.iconst 2, 1) := by decide +kernel
theorem dX11_today_42 : decode cX11_today 42 = .ok (.if_icmp .ne 15, 3) := by decide +kernel
theorem dX11_today_45 : decode cX11_today 45 = .ok (.aload_n 0, 1) := by decide +kernel
theorem dX11_today_46 : decode cX11_today 46 = .ok (.getfield 56, 3) := by decide +kernel
theorem dX11_today_49 : decode cX11_today 49 = .ok (.getfield 205, 3) := by decide +kernel
theorem dX11_today_52 : decode cX11_today 52 = .ok (.iload_n 2, 1) := by decide +kernel
theorem dX11_today_53 : decode cX11_today 53 = .ok (.aaload, 1) := by decide +kernel
theorem dX11_today_54 : decode cX11_today 54 = .ok (.iload_n 1, 1) := by decide +kernel
theorem dX11_today_55 : decode cX11_today 55 = .ok (.iaload, 1) := by decide +kernel
theorem dX11_today_56 : decode cX11_today 56 = .ok (.ireturn, 1) := by decide +kernel
theorem dX11_today_57 : decode cX11_today 57 = .ok (.aload_n 0, 1) := by decide +kernel
theorem dX11_today_58 : decode cX11_today 58 = .ok (.getfield 56, 3) := by decide +kernel
theorem dX11_today_61 : decode cX11_today 61 = .ok (.getfield 209, 3) := by decide +kernel
theorem dX11_today_64 : decode cX11_today 64 = .ok (.iload_n 2, 1) := by decide +kernel
theorem dX11_today_65 : decode cX11_today 65 = .ok (.aaload, 1) := by decide +kernel
theorem dX11_today_66 : decode cX11_today 66 = .ok (.iload_n 1, 1) := by decide +kernel
theorem dX11_today_67 : decode cX11_today 67 = .ok (.iaload, 1) := by decide +kernel
theorem dX11_today_68 : decode cX11_today 68 = .ok (.istore 4, 2) := by decide +kernel
theorem dX11_today_70 : decode cX11_today 70 = .ok (.iload_n 3, 1) := by decide +kernel
theorem dX11_today_71 : decode cX11_today 71 = .ok (.ifCond .ne 15, 3) := by decide +kernel
theorem dX11_today_74 : decode cX11_today 74 = .ok (.aload_n 0, 1) := by decide +kernel
theorem dX11_today_75 : decode cX11_today 75 = .ok (.getfield 16, 3) := by decide +kernel
theorem dX11_today_78 : decode cX11_today 78 = .ok (.iload 4, 2) := by decide +kernel
theorem dX11_today_80 : decode cX11_today 80 = .ok (.invokevirtual 183, 3) := by decide +kernel
theorem dX11_today_83 : decode cX11_today 83 = .ok (.goto 12, 3) := by decide +kernel
theorem dX11_today_86 : decode cX11_today 86 = .ok (.aload_n 0, 1) := by decide +kernel
theorem dX11_today_87 : decode cX11_today 87 = .ok (.getfield 16, 3) := by decide +kernel
theorem dX11_today_90 : decode cX11_today 90 = .ok (.iload 4, 2) := by decide +kernel
theorem dX11_today_92 : decode cX11_today 92 = .ok (.invokevirtual 186, 3) := by decide +kernel
theorem dX11_today_95 : decode cX11_today 95 = .ok (.ireturn, 1) := by decide +kernel
theorem dX11_dew_0 : decode cX11_dew 0 = .ok (.aload_n 0, 1) := by decide +kernel
theorem dX11_dew_1 : decode cX11_dew 1 = .ok (.getfield 16, 3) := by decide +kernel
theorem dX11_dew_4 : decode cX11_dew 4 = .ok (.iload_n 1, 1) := by decide +kernel
theorem dX11_dew_5 : decode cX11_dew 5 = .ok (.iload_n 2, 1) := by decide +kernel
theorem dX11_dew_6 : decode cX11_dew 6 = .ok (.invokevirtual 176, 3) := by decide +kernel
theorem dX11_dew_9 : decode cX11_dew 9 = .ok (.istore 4, 2) := by decide +kernel
theorem dX11_dew_11 : decode cX11_dew 11 = .ok (.iload 4, 2) := by decide +kernel
theorem dX11_dew_13 : decode cX11_dew 13 = .ok (.iconst (-1), 1) := by decide +kernel
theorem dX11_dew_14 : decode cX11_dew 14 = .ok (.if_icmp .eq 14, 3) := by decide +kernel
theorem dX11_dew_17 : decode cX11_dew 17 = .ok (.iload_n 3, 1) := by decide +kernel
theorem dX11_dew_18 : decode cX11_dew 18 = .ok (.iconst (-1), 1) := by decide +kernel
theorem dX11_dew_19 : decode cX11_dew 19 = .ok (.if_icmp .lt 9, 3) := by decide +kernel
theorem dX11_dew_22 : decode cX11_dew 22 = .ok (.iload_n 3, 1) := by decide +kernel
theorem dX11_dew_23 : decode cX11_dew 23 = .ok (.bipush 8, 2) := by decide +kernel
theorem dX11_dew_25 : decode cX11_dew 25 = .ok (.if_icmp .le 5, 3) := by decide +kernel
theorem dX11_dew_28 : decode cX11_dew 28 = .ok (.iconst (-1), 1) := by decide +kernel
theorem dX11_dew_29 : decode cX11_dew 29 = .ok (.ireturn, 1) := by decide +kernel
theorem dX11_dew_30 : decode cX11_dew 30 = .ok (.aload_n 0, 1) := by decide +kernel
theorem dX11_dew_31 : decode cX11_dew 31 = .ok (.getfield 56, 3) := by decide +kernel
theorem dX11_dew_34 : decode cX11_dew 34 = .ok (.aload_n 0, 1) := by decide +kernel
theorem dX11_dew_35 : decode cX11_dew 35 = .ok (.getfield 30, 3) := by decide +kernel
theorem dX11_dew_38 : decode cX11_dew 38 = .ok (.invokevirtual 201, 3) := by decide +kernel
theorem dX11_dew_41 : decode cX11_dew 41 = .ok (.iload_n 3, 1) := by decide +kernel
theorem dX11_dew_42 : decode cX11_dew 42 = .ok (.iconst (-1), 1) := by decide +kernel
theorem dX11_dew_43 : decode cX11_dew 43 = .ok (.if_icmp .ne 19, 3) := by decide +kernel
theorem dX11_dew_46 : decode cX11_dew 46 = .ok (.aload_n 0, 1) := by decide +kernel
theorem dX11_dew_47 : decode cX11_dew 47 = .ok (.getfield 56, 3) := by decide +kernel
theorem dX11_dew_50 : decode cX11_dew 50 = .ok (.getfield 211, 3) := by decide +kernel
theorem dX11_dew_53 : decode cX11_dew 53 = .ok (.getfield 214, 3) := by decide +kernel
theorem dX11_dew_56 : decode cX11_dew 56 = .ok (.iload 4, 2) := by decide +kernel
theorem dX11_dew_58 : decode cX11_dew 58 = .ok (.iaload, 1) := by decide +kernel
theorem dX11_dew_59 : decode cX11_dew 59 = .ok (.goto 15, 3) := by decide +kernel
theorem dX11_dew_62 : decode cX11_dew 62 = .ok (.aload_n 0, 1) := by decide +kernel
theorem dX11_dew_63 : decode cX11_dew 63 = .ok (.getfield 56, 3) := by decide +kernel
theorem dX11_dew_66 : decode cX11_dew 66 = .ok (.getfield 215, 3) := by decide +kernel
theorem dX11_dew_69 : decode cX11_dew 69 = .ok (.iload_n 3, 1) := by decide +kernel
theorem dX11_dew_70 : decode cX11_dew 70 = .ok (.aaload, 1) := by decide +kernel
theorem dX11_dew_71 : decode cX11_dew 71 = .ok (.iload 4, 2) := by decide +kernel
theorem dX11_dew_73 : decode cX11_dew 73 = .ok (.iaload, 1) := by decide +kernel
theorem dX11_dew_74 : decode cX11_dew 74 = .ok (.ireturn, 1) := by decide +kernel
theorem dX11_up_0 : decode cX11_up 0 = .ok (.aload_n 0, 1) := by decide +kernel
theorem dX11_up_1 : decode cX11_up 1 = .ok (.getfield 16, 3) := by decide +kernel
theorem dX11_up_4 : decode cX11_up 4 = .ok (.iload_n 1, 1) := by decide +kernel
theorem dX11_up_5 : decode cX11_up 5 = .ok (.invokevirtual 169, 3) := by decide +kernel
theorem dX11_up_8 : decode cX11_up 8 = .ok (.ifCond .eq 12, 3) := by decide +kernel
theorem dX11_up_11 : decode cX11_up 11 = .ok (.iload_n 2, 1) := by decide +kernel
theorem dX11_up_12 : decode cX11_up 12 = .ok (.ifCond .lt 8, 3) := by decide +kernel
theorem dX11_up_15 : decode cX11_up 15 = .ok (.iload_n 2, 1) := by decide +kernel
theorem dX11_up_16 : decode cX11_up 16 = .ok (.iconst 1, 1) := by decide +kernel
theorem dX11_up_17 : decode cX11_up 17 = .ok (.if_icmp .le 5, 3) := by decide +kernel
theorem dX11_up_20 : decode cX11_up 20 = .ok (.iconst (-1), 1) := by decide +kernel
theorem dX11_up_21 : decode cX11_up 21 = .ok (.ireturn, 1) := by decide +kernel
theorem dX11_up_22 : decode cX11_up 22 = .ok (.aload_n 0, 1) := by decide +kernel
theorem dX11_up_23 : decode cX11_up 23 = .ok (.getfield 56, 3) := by decide +kernel
theorem dX11_up_26 : decode cX11_up 26 = .ok (.aload_n 0, 1) := by decide +kernel
theorem dX11_up_27 : decode cX11_up 27 = .ok (.getfield 30, 3) := by decide +kernel
theorem dX11_up_30 : decode cX11_up 30 = .ok (.invokevirtual 201, 3) := by decide +kernel
theorem dX11_up_33 : decode cX11_up 33 = .ok (.aload_n 0, 1) := by decide +kernel
theorem dX11_up_34 : decode cX11_up 34 = .ok (.getfield 56, 3) := by decide +kernel
theorem dX11_up_37 : decode cX11_up 37 = .ok (.iload_n 1, 1) := by decide +kernel
theorem dX11_up_38 : decode cX11_up 38 = .ok (.invokevirtual 218, 3) := by decide +kernel
theorem dX11_up_41 : decode cX11_up 41 = .ok (.iload_n 2, 1) := by decide +kernel
theorem dX11_up_42 : decode cX11_up 42 = .ok (.ifCond .ne 15, 3) := by decide +kernel
theorem dX11_up_45 : decode cX11_up 45 = .ok (.aload_n 0, 1) := by decide +kernel
theorem dX11_up_46 : decode cX11_up 46 = .ok (.getfield 56, 3) := by decide +kernel
theorem dX11_up_49 : decode cX11_up 49 = .ok (.getfield 221, 3) := by decide +kernel
theorem dX11_up_52 : decode cX11_up 52 = .ok (.iload_n 1, 1) := by decide +kernel
theorem dX11_up_53 : decode cX11_up 53 = .ok (.iaload, 1) := by decide +kernel
theorem dX11_up_54 : decode cX11_up 54 = .ok (.goto 12, 3) := by decide +kernel
theorem dX11_up_57 : decode cX11_up 57 = .ok (.aload_n 0, 1) := by decide +kernel
theorem dX11_up_58 : decode cX11_up 58 = .ok (.getfield 56, 3) := by decide +kernel
theorem dX11_up_61 : decode cX11_up 61 = .ok (.getfield 224, 3) := by decide +kernel
theorem dX11_up_64 : decode cX11_up 64 = .ok (.iload_n 1, 1) := by decide +kernel
theorem dX11_up_65 : decode cX11_up 65 = .ok (.iaload, 1) := by decide +kernel
theorem dX11_up_66 : decode cX11_up 66 = .ok (.ireturn, 1) := by decide +kernel
theorem dX11_home_0 : decode cX11_home 0 = .ok (.aload_n 0, 1) := by decide +kernel
theorem dX11_home_1 : decode cX11_home 1 = .ok (.getfield 16, 3) := by decide +kernel
theorem dX11_home_4 : decode cX11_home 4 = .ok (.iload_n 1, 1) := by decide +kernel
theorem dX11_home_5 : decode cX11_home 5 = .ok (.invokevirtual 169, 3) := by decide +kernel
theorem dX11_home_8 : decode cX11_home 8 = .ok (.ifCond .eq 12, 3) := by decide +kernel
theorem dX11_home_11 : decode cX11_home 11 = .ok (.iload_n 2, 1) := by decide +kernel
theorem dX11_home_12 : decode cX11_home 12 = .ok (.ifCond .lt 8, 3) := by decide +kernel
theorem dX11_home_15 : decode cX11_home 15 = .ok (.iload_n 2, 1) := by decide +kernel
theorem dX11_home_16 : decode cX11_home 16 = .ok (.iconst 2, 1) := by decide +kernel
theorem dX11_home_17 : decode cX11_home 17 = .ok (.if_icmp .le 5, 3) := by decide +kernel
theorem dX11_home_20 : decode cX11_home 20 = .ok (.iconst (-1), 1) := by decide +kernel
theorem dX11_home_21 : decode cX11_home 21 = .ok (.ireturn, 1) := by decide +kernel
theorem dX11_home_22 : decode cX11_home 22 = .ok (.aload_n 0, 1) := by decide +kernel
theorem dX11_home_23 : decode cX11_home 23 = .ok (.getfield 56, 3) := by decide +kernel
theorem dX11_home_26 : decode cX11_home 26 = .ok (.aload_n 0, 1) := by decide +kernel
theorem dX11_home_27 : decode cX11_home 27 = .ok (.getfield 30, 3) := by decide +kernel
theorem dX11_home_30 : decode cX11_home 30 = .ok (.invokevirtual 201, 3) := by decide +kernel
theorem dX11_home_33 : decode cX11_home 33 = .ok (.aload_n 0, 1) := by decide +kernel
theorem dX11_home_34 : decode cX11_home 34 = .ok (.getfield 56, 3) := by decide +kernel
theorem dX11_home_37 : decode cX11_home 37 = .ok (.iload_n 1, 1) := by decide +kernel
theorem dX11_home_38 : decode cX11_home 38 = .ok (.invokevirtual 227, 3) := by decide +kernel
theorem dX11_home_41 : decode cX11_home 41 = .ok (.iload_n 2, 1) := by decide +kernel
theorem dX11_home_42 : decode cX11_home 42 = .ok (.iconst 2, 1) := by decide +kernel
theorem dX11_home_43 : decode cX11_home 43 = .ok (.if_icmp .ne 13, 3) := by decide +kernel
theorem dX11_home_46 : decode cX11_home 46 = .ok (.aload_n 0, 1) := by decide +kernel
theorem dX11_home_47 : decode cX11_home 47 = .ok (.getfield 56, 3) := by decide +kernel
theorem dX11_home_50 : decode cX11_home 50 = .ok (.getfield 230, 3) := by decide +kernel
theorem dX11_home_53 : decode cX11_home 53 = .ok (.iload_n 1, 1) := by decide +kernel
theorem dX11_home_54 : decode cX11_home 54 = .ok (.iaload, 1) := by decide +kernel
theorem dX11_home_55 : decode cX11_home 55 = .ok (.ireturn, 1) := by decide +kernel
theorem dX11_home_56 : decode cX11_home 56 = .ok (.aload_n 0, 1) := by decide +kernel
theorem dX11_home_57 : decode cX11_home 57 = .ok (.getfield 56, 3) := by decide +kernel
theorem dX11_home_60 : decode cX11_home 60 = .ok (.getfield 233, 3) := by decide +kernel
theorem dX11_home_63 : decode cX11_home 63 = .ok (.iload_n 1, 1) := by decide +kernel
theorem dX11_home_64 : decode cX11_home 64 = .ok (.iaload, 1) := by decide +kernel
theorem dX11_home_65 : decode cX11_home 65 = .ok (.istore_n 3, 1) := by decide +kernel
theorem dX11_home_66 : decode cX11_home 66 = .ok (.iload_n 2, 1) := by decide +kernel
theorem dX11_home_67 : decode cX11_home 67 = .ok (.ifCond .ne 14, 3) := by decide +kernel
theorem dX11_home_70 : decode cX11_home 70 = .ok (.aload_n 0, 1) := by decide +kernel
theorem dX11_home_71 : decode cX11_home 71 = .ok (.getfield 16, 3) := by decide +kernel
theorem dX11_home_74 : decode cX11_home 74 = .ok (.iload_n 3, 1) := by decide +kernel
theorem dX11_home_75 : decode cX11_home 75 = .ok (.invokevirtual 183, 3) := by decide +kernel
theorem dX11_home_78 : decode cX11_home 78 = .ok (.goto 11, 3) := by decide +kernel
theorem dX11_home_81 : decode cX11_home 81 = .ok (.aload_n 0, 1) := by decide +kernel
theorem dX11_home_82 : decode cX11_home 82 = .ok (.getfield 16, 3) := by decide +kernel
theorem dX11_home_85 : decode cX11_home 85 = .ok (.iload_n 3, 1) := by decide +kernel
theorem dX11_home_86 : decode cX11_home 86 = .ok (.invokevirtual 186, 3) := by decide +kernel
theorem dX11_home_89 : decode cX11_home 89 = .ok (.ireturn, 1) := by decide +kernel
theorem dX11_way_0 : decode cX11_way 0 = .ok (.aload_n 0, 1) := by decide +kernel
theorem dX11_way_1 : decode cX11_way 1 = .ok (.getfield 16, 3) := by decide +kernel
theorem dX11_way_4 : decode cX11_way 4 = .ok (.iload_n 1, 1) := by decide +kernel
theorem dX11_way_5 : decode cX11_way 5 = .ok (.invokevirtual 169, 3) := by decide +kernel
theorem dX11_way_8 : decode cX11_way 8 = .ok (.ifCond .eq 29, 3) := by decide +kernel
theorem dX11_way_11 : decode cX11_way 11 = .ok (.iload_n 2, 1) := by decide +kernel
theorem dX11_way_12 : decode cX11_way 12 = .ok (.iconst 1, 1) := by decide +kernel
theorem dX11_way_13 : decode cX11_way 13 = .ok (.if_icmp .lt 24, 3) := by decide +kernel
theorem dX11_way_16 : decode cX11_way 16 = .ok (.iload_n 2, 1) := by decide +kernel
theorem dX11_way_17 : decode cX11_way 17 = .ok (.iconst 5, 1) := by decide +kernel
theorem dX11_way_18 : decode cX11_way 18 = .ok (.if_icmp .gt 19, 3) := by decide +kernel
theorem dX11_way_21 : decode cX11_way 21 = .ok (.aload_n 0, 1) := by decide +kernel
theorem dX11_way_22 : decode cX11_way 22 = .ok (.getfield 30, 3) := by decide +kernel
theorem dX11_way_25 : decode cX11_way 25 = .ok (.getfield 189, 3) := by decide +kernel
theorem dX11_way_28 : decode cX11_way 28 = .ok (.iload_n 1, 1) := by decide +kernel
theorem dX11_way_29 : decode cX11_way 29 = .ok (.iaload, 1) := by decide +kernel
theorem dX11_way_30 : decode cX11_way 30 = .ok (.iload_n 2, 1) := by decide +kernel
theorem dX11_way_31 : decode cX11_way 31 = .ok (.iadd, 1) := by decide +kernel
theorem dX11_way_32 : decode cX11_way 32 = .ok (.bipush 9, 2) := by decide +kernel
theorem dX11_way_34 : decode cX11_way 34 = .ok (.if_icmp .le 5, 3) := by decide +kernel
theorem dX11_way_37 : decode cX11_way 37 = .ok (.iconst (-1), 1) := by decide +kernel
theorem dX11_way_38 : decode cX11_way 38 = .ok (.ireturn, 1) := by decide +kernel
theorem dX11_way_39 : decode cX11_way 39 = .ok (.iload_n 3, 1) := by decide +kernel
theorem dX11_way_40 : decode cX11_way 40 = .ok (.iconst (-1), 1) := by decide +kernel
theorem dX11_way_41 : decode cX11_way 41 = .ok (.if_icmp .lt 8, 3) := by decide +kernel
theorem dX11_way_44 : decode cX11_way 44 = .ok (.iload_n 3, 1) := by decide +kernel
theorem dX11_way_45 : decode cX11_way 45 = .ok (.iload_n 2, 1) := by decide +kernel
theorem dX11_way_46 : decode cX11_way 46 = .ok (.if_icmp .lt 5, 3) := by decide +kernel
theorem dX11_way_49 : decode cX11_way 49 = .ok (.iconst (-1), 1) := by decide +kernel
theorem dX11_way_50 : decode cX11_way 50 = .ok (.ireturn, 1) := by decide +kernel
theorem dX11_way_51 : decode cX11_way 51 = .ok (.aload_n 0, 1) := by decide +kernel
theorem dX11_way_52 : decode cX11_way 52 = .ok (.getfield 56, 3) := by decide +kernel
theorem dX11_way_55 : decode cX11_way 55 = .ok (.aload_n 0, 1) := by decide +kernel
theorem dX11_way_56 : decode cX11_way 56 = .ok (.getfield 30, 3) := by decide +kernel
theorem dX11_way_59 : decode cX11_way 59 = .ok (.invokevirtual 201, 3) := by decide +kernel
theorem dX11_way_62 : decode cX11_way 62 = .ok (.aload_n 0, 1) := by decide +kernel
theorem dX11_way_63 : decode cX11_way 63 = .ok (.getfield 63, 3) := by decide +kernel
theorem dX11_way_66 : decode cX11_way 66 = .ok (.aload_n 0, 1) := by decide +kernel
theorem dX11_way_67 : decode cX11_way 67 = .ok (.getfield 56, 3) := by decide +kernel
theorem dX11_way_70 : decode cX11_way 70 = .ok (.getfield 211, 3) := by decide +kernel
theorem dX11_way_73 : decode cX11_way 73 = .ok (.iload_n 1, 1) := by decide +kernel
theorem dX11_way_74 : decode cX11_way 74 = .ok (.iload_n 2, 1) := by decide +kernel
theorem dX11_way_75 : decode cX11_way 75 = .ok (.invokevirtual 236, 3) := by decide +kernel
theorem dX11_way_78 : decode cX11_way 78 = .ok (.iload_n 3, 1) := by decide +kernel
theorem dX11_way_79 : decode cX11_way 79 = .ok (.iconst (-1), 1) := by decide +kernel
theorem dX11_way_80 : decode cX11_way 80 = .ok (.if_icmp .ne 13, 3) := by decide +kernel
theorem dX11_way_83 : decode cX11_way 83 = .ok (.aload_n 0, 1) := by decide +kernel
theorem dX11_way_84 : decode cX11_way 84 = .ok (.getfield 63, 3) := by decide +kernel
theorem dX11_way_87 : decode cX11_way 87 = .ok (.getfield 240, 3) := by decide +kernel
theorem dX11_way_90 : decode cX11_way 90 = .ok (.goto 12, 3) := by decide +kernel
theorem dX11_way_93 : decode cX11_way 93 = .ok (.aload_n 0, 1) := by decide +kernel
theorem dX11_way_94 : decode cX11_way 94 = .ok (.getfield 63, 3) := by decide +kernel
theorem dX11_way_97 : decode cX11_way 97 = .ok (.getfield 243, 3) := by decide +kernel
theorem dX11_way_100 : decode cX11_way 100 = .ok (.iload_n 3, 1) := by decide +kernel
theorem dX11_way_101 : decode cX11_way 101 = .ok (.iaload, 1) := by decide +kernel
theorem dX11_way_102 : decode cX11_way 102 = .ok (.ireturn, 1) := by decide +kernel
theorem dX11_changed_0 : decode cX11_changed 0 = .ok (.iload_n 1, 1) := by decide +kernel
theorem dX11_changed_1 : decode cX11_changed 1 = .ok (.ifCond .lt 8, 3) := by decide +kernel
theorem dX11_changed_4 : decode cX11_changed 4 = .ok (.iload_n 1, 1) := by decide +kernel
theorem dX11_changed_5 : decode cX11_changed 5 = .ok (.iconst 2, 1) := by decide +kernel
theorem dX11_changed_6 : decode cX11_changed 6 = .ok (.if_icmp .le 5, 3) := by decide +kernel
theorem dX11_changed_9 : decode cX11_changed 9 = .ok (.iconst (-1), 1) := by decide +kernel
theorem dX11_changed_10 : decode cX11_changed 10 = .ok (.ireturn, 1) := by decide +kernel
theorem dX11_changed_11 : decode cX11_changed 11 = .ok (.aload_n 0, 1) := by decide +kernel
theorem dX11_changed_12 : decode cX11_changed 12 = .ok (.getfield 56, 3) := by decide +kernel
theorem dX11_changed_15 : decode cX11_changed 15 = .ok (.aload_n 0, 1) := by decide +kernel
theorem dX11_changed_16 : decode cX11_changed 16 = .ok (.getfield 30, 3) := by decide +kernel
theorem dX11_changed_19 : decode cX11_changed 19 = .ok (.invokevirtual 201, 3) := by decide +kernel
theorem dX11_changed_22 : decode cX11_changed 22 = .ok (.aload_n 0, 1) := by decide +kernel
theorem dX11_changed_23 : decode cX11_changed 23 = .ok (.getfield 56, 3) := by decide +kernel
theorem dX11_changed_26 : decode cX11_changed 26 = .ok (.invokevirtual 246, 3) := by decide +kernel
theorem dX11_changed_29 : decode cX11_changed 29 = .ok (.aload_n 0, 1) := by decide +kernel
theorem dX11_changed_30 : decode cX11_changed 30 = .ok (.getfield 56, 3) := by decide +kernel
theorem dX11_changed_33 : decode cX11_changed 33 = .ok (.getfield 249, 3) := by decide +kernel
theorem dX11_changed_36 : decode cX11_changed 36 = .ok (.iconst (-1), 1) := by decide +kernel
theorem dX11_changed_37 : decode cX11_changed 37 = .ok (.if_icmp .ne 5, 3) := by decide +kernel
theorem dX11_changed_40 : decode cX11_changed 40 = .ok (.iconst (-1), 1) := by decide +kernel
theorem dX11_changed_41 : decode cX11_changed 41 = .ok (.ireturn, 1) := by decide +kernel
theorem dX11_changed_42 : decode cX11_changed 42 = .ok (.iload_n 1, 1) := by decide +kernel
theorem dX11_changed_43 : decode cX11_changed 43 = .ok (.iconst 2, 1) := by decide +kernel
theorem dX11_changed_44 : decode cX11_changed 44 = .ok (.if_icmp .ne 11, 3) := by decide +kernel
theorem dX11_changed_47 : decode cX11_changed 47 = .ok (.aload_n 0, 1) := by decide +kernel
theorem dX11_changed_48 : decode cX11_changed 48 = .ok (.getfield 56, 3) := by decide +kernel
theorem dX11_changed_51 : decode cX11_changed 51 = .ok (.getfield 252, 3) := by decide +kernel
theorem dX11_changed_54 : decode cX11_changed 54 = .ok (.ireturn, 1) := by decide +kernel
theorem dX11_changed_55 : decode cX11_changed 55 = .ok (.iload_n 1, 1) := by decide +kernel
theorem dX11_changed_56 : decode cX11_changed 56 = .ok (.ifCond .ne 13, 3) := by decide +kernel
theorem dX11_changed_59 : decode cX11_changed 59 = .ok (.aload_n 0, 1) := by decide +kernel
theorem dX11_changed_60 : decode cX11_changed 60 = .ok (.getfield 56, 3) := by decide +kernel
theorem dX11_changed_63 : decode cX11_changed 63 = .ok (.getfield 249, 3) := by decide +kernel
theorem dX11_changed_66 : decode cX11_changed 66 = .ok (.goto 10, 3) := by decide +kernel
theorem dX11_changed_69 : decode cX11_changed 69 = .ok (.aload_n 0, 1) := by decide +kernel
theorem dX11_changed_70 : decode cX11_changed 70 = .ok (.getfield 56, 3) := by decide +kernel
theorem dX11_changed_73 : decode cX11_changed 73 = .ok (.getfield 255, 3) := by decide +kernel
theorem dX11_changed_76 : decode cX11_changed 76 = .ok (.ireturn, 1) := by decide +kernel
theorem dX11_later_0 : decode cX11_later 0 = .ok (.aload_n 0, 1) := by decide +kernel
theorem dX11_later_1 : decode cX11_later 1 = .ok (.getfield 16, 3) := by decide +kernel
theorem dX11_later_4 : decode cX11_later 4 = .ok (.iload_n 1, 1) := by decide +kernel
theorem dX11_later_5 : decode cX11_later 5 = .ok (.iload_n 2, 1) := by decide +kernel
theorem dX11_later_6 : decode cX11_later 6 = .ok (.invokevirtual 176, 3) := by decide +kernel
theorem dX11_later_9 : decode cX11_later 9 = .ok (.istore 4, 2) := by decide +kernel
theorem dX11_later_11 : decode cX11_later 11 = .ok (.iload 4, 2) := by decide +kernel
theorem dX11_later_13 : decode cX11_later 13 = .ok (.iconst (-1), 1) := by decide +kernel
theorem dX11_later_14 : decode cX11_later 14 = .ok (.if_icmp .eq 15, 3) := by decide +kernel
theorem dX11_later_17 : decode cX11_later 17 = .ok (.iload_n 3, 1) := by decide +kernel
theorem dX11_later_18 : decode cX11_later 18 = .ok (.ifCond .lt 11, 3) := by decide +kernel
theorem dX11_later_21 : decode cX11_later 21 = .ok (.iload_n 3, 1) := by decide +kernel
theorem dX11_later_22 : decode cX11_later 22 = .ok (.aload_n 0, 1) := by decide +kernel
theorem dX11_later_23 : decode cX11_later 23 = .ok (.invokevirtual 258, 3) := by decide +kernel
theorem dX11_later_26 : decode cX11_later 26 = .ok (.if_icmp .le 5, 3) := by decide +kernel
theorem dX11_later_29 : decode cX11_later 29 = .ok (.iconst (-1), 1) := by decide +kernel
theorem dX11_later_30 : decode cX11_later 30 = .ok (.ireturn, 1) := by decide +kernel
theorem dX11_later_31 : decode cX11_later 31 = .ok (.aload_n 0, 1) := by decide +kernel
theorem dX11_later_32 : decode cX11_later 32 = .ok (.getfield 70, 3) := by decide +kernel
theorem dX11_later_35 : decode cX11_later 35 = .ok (.aload_n 0, 1) := by decide +kernel
theorem dX11_later_36 : decode cX11_later 36 = .ok (.getfield 30, 3) := by decide +kernel
theorem dX11_later_39 : decode cX11_later 39 = .ok (.aload_n 0, 1) := by decide +kernel
theorem dX11_later_40 : decode cX11_later 40 = .ok (.invokevirtual 262, 3) := by decide +kernel
theorem dX11_later_43 : decode cX11_later 43 = .ok (.invokevirtual 265, 3) := by decide +kernel
theorem dX11_later_46 : decode cX11_later 46 = .ok (.aload_n 0, 1) := by decide +kernel
theorem dX11_later_47 : decode cX11_later 47 = .ok (.getfield 70, 3) := by decide +kernel
theorem dX11_later_50 : decode cX11_later 50 = .ok (.getfield 268, 3) := by decide +kernel
theorem dX11_later_53 : decode cX11_later 53 = .ok (.iload_n 3, 1) := by decide +kernel
theorem dX11_later_54 : decode cX11_later 54 = .ok (.aaload, 1) := by decide +kernel
theorem dX11_later_55 : decode cX11_later 55 = .ok (.iload 4, 2) := by decide +kernel
theorem dX11_later_57 : decode cX11_later 57 = .ok (.iaload, 1) := by decide +kernel
theorem dX11_later_58 : decode cX11_later 58 = .ok (.ireturn, 1) := by decide +kernel
theorem dX11_purse_0 : decode cX11_purse 0 = .ok (.aload_n 0, 1) := by decide +kernel
theorem dX11_purse_1 : decode cX11_purse 1 = .ok (.getfield 16, 3) := by decide +kernel
theorem dX11_purse_4 : decode cX11_purse 4 = .ok (.iload_n 1, 1) := by decide +kernel
theorem dX11_purse_5 : decode cX11_purse 5 = .ok (.invokevirtual 169, 3) := by decide +kernel
theorem dX11_purse_8 : decode cX11_purse 8 = .ok (.ifCond .eq 15, 3) := by decide +kernel
theorem dX11_purse_11 : decode cX11_purse 11 = .ok (.iload_n 2, 1) := by decide +kernel
theorem dX11_purse_12 : decode cX11_purse 12 = .ok (.ifCond .lt 11, 3) := by decide +kernel
theorem dX11_purse_15 : decode cX11_purse 15 = .ok (.iload_n 2, 1) := by decide +kernel
theorem dX11_purse_16 : decode cX11_purse 16 = .ok (.aload_n 0, 1) := by decide +kernel
theorem dX11_purse_17 : decode cX11_purse 17 = .ok (.invokevirtual 258, 3) := by decide +kernel
theorem dX11_purse_20 : decode cX11_purse 20 = .ok (.if_icmp .le 5, 3) := by decide +kernel
theorem dX11_purse_23 : decode cX11_purse 23 = .ok (.iconst (-1), 1) := by decide +kernel
theorem dX11_purse_24 : decode cX11_purse 24 = .ok (.ireturn, 1) := by decide +kernel
theorem dX11_purse_25 : decode cX11_purse 25 = .ok (.aload_n 0, 1) := by decide +kernel
theorem dX11_purse_26 : decode cX11_purse 26 = .ok (.getfield 70, 3) := by decide +kernel
theorem dX11_purse_29 : decode cX11_purse 29 = .ok (.aload_n 0, 1) := by decide +kernel
theorem dX11_purse_30 : decode cX11_purse 30 = .ok (.getfield 30, 3) := by decide +kernel
theorem dX11_purse_33 : decode cX11_purse 33 = .ok (.aload_n 0, 1) := by decide +kernel
theorem dX11_purse_34 : decode cX11_purse 34 = .ok (.invokevirtual 262, 3) := by decide +kernel
theorem dX11_purse_37 : decode cX11_purse 37 = .ok (.invokevirtual 265, 3) := by decide +kernel
theorem dX11_purse_40 : decode cX11_purse 40 = .ok (.aload_n 0, 1) := by decide +kernel
theorem dX11_purse_41 : decode cX11_purse 41 = .ok (.getfield 70, 3) := by decide +kernel
theorem dX11_purse_44 : decode cX11_purse 44 = .ok (.getfield 270, 3) := by decide +kernel
theorem dX11_purse_47 : decode cX11_purse 47 = .ok (.iload_n 2, 1) := by decide +kernel
theorem dX11_purse_48 : decode cX11_purse 48 = .ok (.aaload, 1) := by decide +kernel
theorem dX11_purse_49 : decode cX11_purse 49 = .ok (.iload_n 1, 1) := by decide +kernel
theorem dX11_purse_50 : decode cX11_purse 50 = .ok (.iaload, 1) := by decide +kernel
theorem dX11_purse_51 : decode cX11_purse 51 = .ok (.ireturn, 1) := by decide +kernel
theorem dX11_dry_0 : decode cX11_dry 0 = .ok (.aload_n 0, 1) := by decide +kernel
theorem dX11_dry_1 : decode cX11_dry 1 = .ok (.getfield 16, 3) := by decide +kernel
theorem dX11_dry_4 : decode cX11_dry 4 = .ok (.iload_n 1, 1) := by decide +kernel
theorem dX11_dry_5 : decode cX11_dry 5 = .ok (.invokevirtual 169, 3) := by decide +kernel
theorem dX11_dry_8 : decode cX11_dry 8 = .ok (.ifCond .ne 5, 3) := by decide +kernel
theorem dX11_dry_11 : decode cX11_dry 11 = .ok (.iconst (-1), 1) := by decide +kernel
theorem dX11_dry_12 : decode cX11_dry 12 = .ok (.ireturn, 1) := by decide +kernel
theorem dX11_dry_13 : decode cX11_dry 13 = .ok (.aload_n 0, 1) := by decide +kernel
theorem dX11_dry_14 : decode cX11_dry 14 = .ok (.getfield 70, 3) := by decide +kernel
theorem dX11_dry_17 : decode cX11_dry 17 = .ok (.aload_n 0, 1) := by decide +kernel
theorem dX11_dry_18 : decode cX11_dry 18 = .ok (.getfield 30, 3) := by decide +kernel
theorem dX11_dry_21 : decode cX11_dry 21 = .ok (.aload_n 0, 1) := by decide +kernel
theorem dX11_dry_22 : decode cX11_dry 22 = .ok (.invokevirtual 262, 3) := by decide +kernel
theorem dX11_dry_25 : decode cX11_dry 25 = .ok (.invokevirtual 265, 3) := by decide +kernel
theorem dX11_dry_28 : decode cX11_dry 28 = .ok (.aload_n 0, 1) := by decide +kernel
theorem dX11_dry_29 : decode cX11_dry 29 = .ok (.getfield 70, 3) := by decide +kernel
theorem dX11_dry_32 : decode cX11_dry 32 = .ok (.getfield 273, 3) := by decide +kernel
theorem dX11_dry_35 : decode cX11_dry 35 = .ok (.iload_n 1, 1) := by decide +kernel
theorem dX11_dry_36 : decode cX11_dry 36 = .ok (.iaload, 1) := by decide +kernel
theorem dX11_dry_37 : decode cX11_dry 37 = .ok (.ireturn, 1) := by decide +kernel
theorem dX11_see_0 : decode cX11_see 0 = .ok (.aload_n 0, 1) := by decide +kernel
theorem dX11_see_1 : decode cX11_see 1 = .ok (.getfield 95, 3) := by decide +kernel
theorem dX11_see_4 : decode cX11_see 4 = .ok (.istore_n 1, 1) := by decide +kernel
theorem dX11_see_5 : decode cX11_see 5 = .ok (.aload_n 0, 1) := by decide +kernel
theorem dX11_see_6 : decode cX11_see 6 = .ok (.iconst 0, 1) := by decide +kernel
theorem dX11_see_7 : decode cX11_see 7 = .ok (.putfield 95, 3) := by decide +kernel
theorem dX11_see_10 : decode cX11_see 10 = .ok (.aload_n 0, 1) := by decide +kernel
theorem dX11_see_11 : decode cX11_see 11 = .ok (.getfield 77, 3) := by decide +kernel
theorem dX11_see_14 : decode cX11_see 14 = .ok (.aload_n 0, 1) := by decide +kernel
theorem dX11_see_15 : decode cX11_see 15 = .ok (.getfield 9, 3) := by decide +kernel
theorem dX11_see_18 : decode cX11_see 18 = .ok (.iload_n 1, 1) := by decide +kernel
theorem dX11_see_19 : decode cX11_see 19 = .ok (.invokevirtual 276, 3) := by decide +kernel
theorem dX11_see_22 : decode cX11_see 22 = .ok (.ifCond .ne 9, 3) := by decide +kernel
theorem dX11_see_25 : decode cX11_see 25 = .ok (.aload_n 0, 1) := by decide +kernel
theorem dX11_see_26 : decode cX11_see 26 = .ok (.iconst 5, 1) := by decide +kernel
theorem dX11_see_27 : decode cX11_see 27 = .ok (.invokevirtual 98, 3) := by decide +kernel
theorem dX11_see_30 : decode cX11_see 30 = .ok (.ireturn, 1) := by decide +kernel
theorem dX11_see_31 : decode cX11_see 31 = .ok (.aload_n 0, 1) := by decide +kernel
theorem dX11_see_32 : decode cX11_see 32 = .ok (.getfield 77, 3) := by decide +kernel
theorem dX11_see_35 : decode cX11_see 35 = .ok (.getfield 163, 3) := by decide +kernel
theorem dX11_see_38 : decode cX11_see 38 = .ok (.ireturn, 1) := by decide +kernel
theorem dX11_walkers_0 : decode cX11_walkers 0 = .ok (.iload_n 1, 1) := by decide +kernel
theorem dX11_walkers_1 : decode cX11_walkers 1 = .ok (.ifCond .lt 8, 3) := by decide +kernel
theorem dX11_walkers_4 : decode cX11_walkers 4 = .ok (.iload_n 1, 1) := by decide +kernel
theorem dX11_walkers_5 : decode cX11_walkers 5 = .ok (.iconst 1, 1) := by decide +kernel
theorem dX11_walkers_6 : decode cX11_walkers 6 = .ok (.if_icmp .le 5, 3) := by decide +kernel
theorem dX11_walkers_9 : decode cX11_walkers 9 = .ok (.iconst (-1), 1) := by decide +kernel
theorem dX11_walkers_10 : decode cX11_walkers 10 = .ok (.ireturn, 1) := by decide +kernel
theorem dX11_walkers_11 : decode cX11_walkers 11 = .ok (.aload_n 0, 1) := by decide +kernel
theorem dX11_walkers_12 : decode cX11_walkers 12 = .ok (.getfield 56, 3) := by decide +kernel
theorem dX11_walkers_15 : decode cX11_walkers 15 = .ok (.aload_n 0, 1) := by decide +kernel
theorem dX11_walkers_16 : decode cX11_walkers 16 = .ok (.getfield 30, 3) := by decide +kernel
theorem dX11_walkers_19 : decode cX11_walkers 19 = .ok (.invokevirtual 201, 3) := by decide +kernel
theorem dX11_walkers_22 : decode cX11_walkers 22 = .ok (.aload_n 0, 1) := by decide +kernel
theorem dX11_walkers_23 : decode cX11_walkers 23 = .ok (.getfield 77, 3) := by decide +kernel
theorem dX11_walkers_26 : decode cX11_walkers 26 = .ok (.aload_n 0, 1) := by decide +kernel
theorem dX11_walkers_27 : decode cX11_walkers 27 = .ok (.getfield 56, 3) := by decide +kernel
theorem dX11_walkers_30 : decode cX11_walkers 30 = .ok (.getfield 211, 3) := by decide +kernel
theorem dX11_walkers_33 : decode cX11_walkers 33 = .ok (.invokevirtual 279, 3) := by decide +kernel
theorem dX11_walkers_36 : decode cX11_walkers 36 = .ok (.iload_n 1, 1) := by decide +kernel
theorem dX11_walkers_37 : decode cX11_walkers 37 = .ok (.ifCond .ne 11, 3) := by decide +kernel
theorem dX11_walkers_40 : decode cX11_walkers 40 = .ok (.aload_n 0, 1) := by decide +kernel
theorem dX11_walkers_41 : decode cX11_walkers 41 = .ok (.getfield 77, 3) := by decide +kernel
theorem dX11_walkers_44 : decode cX11_walkers 44 = .ok (.getfield 282, 3) := by decide +kernel
theorem dX11_walkers_47 : decode cX11_walkers 47 = .ok (.ireturn, 1) := by decide +kernel
theorem dX11_walkers_48 : decode cX11_walkers 48 = .ok (.aload_n 0, 1) := by decide +kernel
theorem dX11_walkers_49 : decode cX11_walkers 49 = .ok (.getfield 77, 3) := by decide +kernel
theorem dX11_walkers_52 : decode cX11_walkers 52 = .ok (.getfield 282, 3) := by decide +kernel
theorem dX11_walkers_55 : decode cX11_walkers 55 = .ok (.ifCond .ne 7, 3) := by decide +kernel
theorem dX11_walkers_58 : decode cX11_walkers 58 = .ok (.iconst (-1), 1) := by decide +kernel
theorem dX11_walkers_59 : decode cX11_walkers 59 = .ok (.goto 12, 3) := by decide +kernel
theorem dX11_walkers_62 : decode cX11_walkers 62 = .ok (.aload_n 0, 1) := by decide +kernel
theorem dX11_walkers_63 : decode cX11_walkers 63 = .ok (.getfield 77, 3) := by decide +kernel
theorem dX11_walkers_66 : decode cX11_walkers 66 = .ok (.getfield 283, 3) := by decide +kernel
theorem dX11_walkers_69 : decode cX11_walkers 69 = .ok (.iconst 0, 1) := by decide +kernel
theorem dX11_walkers_70 : decode cX11_walkers 70 = .ok (.iaload, 1) := by decide +kernel
theorem dX11_walkers_71 : decode cX11_walkers 71 = .ok (.ireturn, 1) := by decide +kernel
theorem dX11_tells_0 : decode cX11_tells 0 = .ok (.iload_n 1, 1) := by decide +kernel
theorem dX11_tells_1 : decode cX11_tells 1 = .ok (.ifCond .lt 18, 3) := by decide +kernel
theorem dX11_tells_4 : decode cX11_tells 4 = .ok (.iload_n 1, 1) := by decide +kernel
theorem dX11_tells_5 : decode cX11_tells 5 = .ok (.iconst 3, 1) := by decide +kernel
theorem dX11_tells_6 : decode cX11_tells 6 = .ok (.if_icmp .gt 13, 3) := by decide +kernel
theorem dX11_tells_9 : decode cX11_tells 9 = .ok (.aload_n 0, 1) := by decide +kernel
theorem dX11_tells_10 : decode cX11_tells 10 = .ok (.getfield 16, 3) := by decide +kernel
theorem dX11_tells_13 : decode cX11_tells 13 = .ok (.getfield 150, 3) := by decide +kernel
theorem dX11_tells_16 : decode cX11_tells 16 = .ok (.ifCond .ne 5, 3) := by decide +kernel
theorem dX11_tells_19 : decode cX11_tells 19 = .ok (.iconst (-1), 1) := by decide +kernel
theorem dX11_tells_20 : decode cX11_tells 20 = .ok (.ireturn, 1) := by decide +kernel
theorem dX11_tells_21 : decode cX11_tells 21 = .ok (.aload_n 0, 1) := by decide +kernel
theorem dX11_tells_22 : decode cX11_tells 22 = .ok (.getfield 56, 3) := by decide +kernel
theorem dX11_tells_25 : decode cX11_tells 25 = .ok (.aload_n 0, 1) := by decide +kernel
theorem dX11_tells_26 : decode cX11_tells 26 = .ok (.getfield 30, 3) := by decide +kernel
theorem dX11_tells_29 : decode cX11_tells 29 = .ok (.invokevirtual 201, 3) := by decide +kernel
theorem dX11_tells_32 : decode cX11_tells 32 = .ok (.aload_n 0, 1) := by decide +kernel
theorem dX11_tells_33 : decode cX11_tells 33 = .ok (.getfield 77, 3) := by decide +kernel
theorem dX11_tells_36 : decode cX11_tells 36 = .ok (.aload_n 0, 1) := by decide +kernel
theorem dX11_tells_37 : decode cX11_tells 37 = .ok (.getfield 56, 3) := by decide +kernel
theorem dX11_tells_40 : decode cX11_tells 40 = .ok (.getfield 211, 3) := by decide +kernel
theorem dX11_tells_43 : decode cX11_tells 43 = .ok (.invokevirtual 279, 3) := by decide +kernel
theorem dX11_tells_46 : decode cX11_tells 46 = .ok (.aload_n 0, 1) := by decide +kernel
theorem dX11_tells_47 : decode cX11_tells 47 = .ok (.getfield 77, 3) := by decide +kernel
theorem dX11_tells_50 : decode cX11_tells 50 = .ok (.getfield 282, 3) := by decide +kernel
theorem dX11_tells_53 : decode cX11_tells 53 = .ok (.ifCond .ne 5, 3) := by decide +kernel
theorem dX11_tells_56 : decode cX11_tells 56 = .ok (.iconst (-1), 1) := by decide +kernel
theorem dX11_tells_57 : decode cX11_tells 57 = .ok (.ireturn, 1) := by decide +kernel
theorem dX11_tells_58 : decode cX11_tells 58 = .ok (.aload_n 0, 1) := by decide +kernel
theorem dX11_tells_59 : decode cX11_tells 59 = .ok (.getfield 77, 3) := by decide +kernel
theorem dX11_tells_62 : decode cX11_tells 62 = .ok (.invokevirtual 286, 3) := by decide +kernel
theorem dX11_tells_65 : decode cX11_tells 65 = .ok (.iload_n 1, 1) := by decide +kernel
theorem dX11_tells_66 : decode cX11_tells 66 = .ok (.tableswitch 64 0 2 #[26, 34, 49], 26) := by decide +kernel
theorem dX11_tells_92 : decode cX11_tells 92 = .ok (.aload_n 0, 1) := by decide +kernel
theorem dX11_tells_93 : decode cX11_tells 93 = .ok (.getfield 77, 3) := by decide +kernel
theorem dX11_tells_96 : decode cX11_tells 96 = .ok (.getfield 289, 3) := by decide +kernel
theorem dX11_tells_99 : decode cX11_tells 99 = .ok (.ireturn, 1) := by decide +kernel
theorem dX11_tells_100 : decode cX11_tells 100 = .ok (.aload_n 0, 1) := by decide +kernel
theorem dX11_tells_101 : decode cX11_tells 101 = .ok (.getfield 16, 3) := by decide +kernel
theorem dX11_tells_104 : decode cX11_tells 104 = .ok (.aload_n 0, 1) := by decide +kernel
theorem dX11_tells_105 : decode cX11_tells 105 = .ok (.getfield 77, 3) := by decide +kernel
theorem dX11_tells_108 : decode cX11_tells 108 = .ok (.getfield 292, 3) := by decide +kernel
theorem dX11_tells_111 : decode cX11_tells 111 = .ok (.invokevirtual 183, 3) := by decide +kernel
theorem dX11_tells_114 : decode cX11_tells 114 = .ok (.ireturn, 1) := by decide +kernel
theorem dX11_tells_115 : decode cX11_tells 115 = .ok (.aload_n 0, 1) := by decide +kernel
theorem dX11_tells_116 : decode cX11_tells 116 = .ok (.getfield 16, 3) := by decide +kernel
theorem dX11_tells_119 : decode cX11_tells 119 = .ok (.aload_n 0, 1) := by decide +kernel
theorem dX11_tells_120 : decode cX11_tells 120 = .ok (.getfield 77, 3) := by decide +kernel
theorem dX11_tells_123 : decode cX11_tells 123 = .ok (.getfield 292, 3) := by decide +kernel
theorem dX11_tells_126 : decode cX11_tells 126 = .ok (.invokevirtual 186, 3) := by decide +kernel
theorem dX11_tells_129 : decode cX11_tells 129 = .ok (.ireturn, 1) := by decide +kernel
theorem dX11_tells_130 : decode cX11_tells 130 = .ok (.aload_n 0, 1) := by decide +kernel
theorem dX11_tells_131 : decode cX11_tells 131 = .ok (.getfield 77, 3) := by decide +kernel
theorem dX11_tells_134 : decode cX11_tells 134 = .ok (.getfield 295, 3) := by decide +kernel
theorem dX11_tells_137 : decode cX11_tells 137 = .ok (.ireturn, 1) := by decide +kernel
theorem dX11_days_0 : decode cX11_days 0 = .ok (.iload_n 1, 1) := by decide +kernel
theorem dX11_days_1 : decode cX11_days 1 = .ok (.iconst 1, 1) := by decide +kernel
theorem dX11_days_2 : decode cX11_days 2 = .ok (.if_icmp .lt 11, 3) := by decide +kernel
theorem dX11_days_5 : decode cX11_days 5 = .ok (.iload_n 1, 1) := by decide +kernel
theorem dX11_days_6 : decode cX11_days 6 = .ok (.aload_n 0, 1) := by decide +kernel
theorem dX11_days_7 : decode cX11_days 7 = .ok (.invokevirtual 258, 3) := by decide +kernel
theorem dX11_days_10 : decode cX11_days 10 = .ok (.if_icmp .le 9, 3) := by decide +kernel
theorem dX11_days_13 : decode cX11_days 13 = .ok (.aload_n 0, 1) := by decide +kernel
theorem dX11_days_14 : decode cX11_days 14 = .ok (.iconst 2, 1) := by decide +kernel
theorem dX11_days_15 : decode cX11_days 15 = .ok (.invokevirtual 98, 3) := by decide +kernel
theorem dX11_days_18 : decode cX11_days 18 = .ok (.ireturn, 1) := by decide +kernel
theorem dX11_days_19 : decode cX11_days 19 = .ok (.aload_n 0, 1) := by decide +kernel
theorem dX11_days_20 : decode cX11_days 20 = .ok (.invokevirtual 298, 3) := by decide +kernel
theorem dX11_days_23 : decode cX11_days 23 = .ok (.iconst 0, 1) := by decide +kernel
theorem dX11_days_24 : decode cX11_days 24 = .ok (.istore_n 2, 1) := by decide +kernel
theorem dX11_days_25 : decode cX11_days 25 = .ok (.iconst 0, 1) := by decide +kernel
theorem dX11_days_26 : decode cX11_days 26 = .ok (.istore_n 3, 1) := by decide +kernel
theorem dX11_days_27 : decode cX11_days 27 = .ok (.iload_n 3, 1) := by decide +kernel
theorem dX11_days_28 : decode cX11_days 28 = .ok (.iload_n 1, 1) := by decide +kernel
theorem dX11_days_29 : decode cX11_days 29 = .ok (.if_icmp .ge 24, 3) := by decide +kernel
theorem dX11_days_32 : decode cX11_days 32 = .ok (.iload_n 2, 1) := by decide +kernel
theorem dX11_days_33 : decode cX11_days 33 = .ok (.aload_n 0, 1) := by decide +kernel
theorem dX11_days_34 : decode cX11_days 34 = .ok (.getfield 49, 3) := by decide +kernel
theorem dX11_days_37 : decode cX11_days 37 = .ok (.aload_n 0, 1) := by decide +kernel
theorem dX11_days_38 : decode cX11_days 38 = .ok (.getfield 30, 3) := by decide +kernel
theorem dX11_days_41 : decode cX11_days 41 = .ok (.iconst 0, 1) := by decide +kernel
theorem dX11_days_42 : decode cX11_days 42 = .ok (.invokevirtual 301, 3) := by decide +kernel
theorem dX11_days_45 : decode cX11_days 45 = .ok (.iadd, 1) := by decide +kernel
theorem dX11_days_46 : decode cX11_days 46 = .ok (.istore_n 2, 1) := by decide +kernel
theorem dX11_days_47 : decode cX11_days 47 = .ok (.iinc 3 1, 3) := by decide +kernel
theorem dX11_days_50 : decode cX11_days 50 = .ok (.goto (-23), 3) := by decide +kernel
theorem dX11_days_53 : decode cX11_days 53 = .ok (.iload_n 2, 1) := by decide +kernel
theorem dX11_days_54 : decode cX11_days 54 = .ok (.ireturn, 1) := by decide +kernel
theorem dX11_chance_0 : decode cX11_chance 0 = .ok (.iload_n 1, 1) := by decide +kernel
theorem dX11_chance_1 : decode cX11_chance 1 = .ok (.iconst 1, 1) := by decide +kernel
theorem dX11_chance_2 : decode cX11_chance 2 = .ok (.if_icmp .lt 11, 3) := by decide +kernel
theorem dX11_chance_5 : decode cX11_chance 5 = .ok (.iload_n 1, 1) := by decide +kernel
theorem dX11_chance_6 : decode cX11_chance 6 = .ok (.aload_n 0, 1) := by decide +kernel
theorem dX11_chance_7 : decode cX11_chance 7 = .ok (.invokevirtual 258, 3) := by decide +kernel
theorem dX11_chance_10 : decode cX11_chance 10 = .ok (.if_icmp .le 9, 3) := by decide +kernel
theorem dX11_chance_13 : decode cX11_chance 13 = .ok (.aload_n 0, 1) := by decide +kernel
theorem dX11_chance_14 : decode cX11_chance 14 = .ok (.iconst 2, 1) := by decide +kernel
theorem dX11_chance_15 : decode cX11_chance 15 = .ok (.invokevirtual 98, 3) := by decide +kernel
theorem dX11_chance_18 : decode cX11_chance 18 = .ok (.ireturn, 1) := by decide +kernel
theorem dX11_chance_19 : decode cX11_chance 19 = .ok (.aload_n 0, 1) := by decide +kernel
theorem dX11_chance_20 : decode cX11_chance 20 = .ok (.invokevirtual 298, 3) := by decide +kernel
theorem dX11_chance_23 : decode cX11_chance 23 = .ok (.iconst 0, 1) := by decide +kernel
theorem dX11_chance_24 : decode cX11_chance 24 = .ok (.istore_n 2, 1) := by decide +kernel
theorem dX11_chance_25 : decode cX11_chance 25 = .ok (.iconst 0, 1) := by decide +kernel
theorem dX11_chance_26 : decode cX11_chance 26 = .ok (.istore_n 3, 1) := by decide +kernel
theorem dX11_chance_27 : decode cX11_chance 27 = .ok (.iload_n 3, 1) := by decide +kernel
theorem dX11_chance_28 : decode cX11_chance 28 = .ok (.iload_n 1, 1) := by decide +kernel
theorem dX11_chance_29 : decode cX11_chance 29 = .ok (.if_icmp .ge 59, 3) := by decide +kernel
theorem dX11_chance_32 : decode cX11_chance 32 = .ok (.aload_n 0, 1) := by decide +kernel
theorem dX11_chance_33 : decode cX11_chance 33 = .ok (.bipush 100, 2) := by decide +kernel
theorem dX11_chance_35 : decode cX11_chance 35 = .ok (.invokevirtual 305, 3) := by decide +kernel
theorem dX11_chance_38 : decode cX11_chance 38 = .ok (.aload_n 0, 1) := by decide +kernel
theorem dX11_chance_39 : decode cX11_chance 39 = .ok (.getfield 16, 3) := by decide +kernel
theorem dX11_chance_42 : decode cX11_chance 42 = .ok (.getfield 308, 3) := by decide +kernel
theorem dX11_chance_45 : decode cX11_chance 45 = .ok (.if_icmp .ge 7, 3) := by decide +kernel
theorem dX11_chance_48 : decode cX11_chance 48 = .ok (.iconst 1, 1) := by decide +kernel
theorem dX11_chance_49 : decode cX11_chance 49 = .ok (.goto 4, 3) := by decide +kernel
theorem dX11_chance_52 : decode cX11_chance 52 = .ok (.iconst 0, 1) := by decide +kernel
theorem dX11_chance_53 : decode cX11_chance 53 = .ok (.istore 4, 2) := by decide +kernel
theorem dX11_chance_55 : decode cX11_chance 55 = .ok (.iload_n 2, 1) := by decide +kernel
theorem dX11_chance_56 : decode cX11_chance 56 = .ok (.iload 4, 2) := by decide +kernel
theorem dX11_chance_58 : decode cX11_chance 58 = .ok (.ifCond .eq 7, 3) := by decide +kernel
theorem dX11_chance_61 : decode cX11_chance 61 = .ok (.iconst 1, 1) := by decide +kernel
theorem dX11_chance_62 : decode cX11_chance 62 = .ok (.goto 4, 3) := by decide +kernel
theorem dX11_chance_65 : decode cX11_chance 65 = .ok (.iconst 0, 1) := by decide +kernel
theorem dX11_chance_66 : decode cX11_chance 66 = .ok (.iadd, 1) := by decide +kernel
theorem dX11_chance_67 : decode cX11_chance 67 = .ok (.istore_n 2, 1) := by decide +kernel
theorem dX11_chance_68 : decode cX11_chance 68 = .ok (.aload_n 0, 1) := by decide +kernel
theorem dX11_chance_69 : decode cX11_chance 69 = .ok (.getfield 49, 3) := by decide +kernel
theorem dX11_chance_72 : decode cX11_chance 72 = .ok (.aload_n 0, 1) := by decide +kernel
theorem dX11_chance_73 : decode cX11_chance 73 = .ok (.getfield 30, 3) := by decide +kernel
theorem dX11_chance_76 : decode cX11_chance 76 = .ok (.iload 4, 2) := by decide +kernel
theorem dX11_chance_78 : decode cX11_chance 78 = .ok (.invokevirtual 301, 3) := by decide +kernel
theorem dX11_chance_81 : decode cX11_chance 81 = .ok (.pop, 1) := by decide +kernel
theorem dX11_chance_82 : decode cX11_chance 82 = .ok (.iinc 3 1, 3) := by decide +kernel
theorem dX11_chance_85 : decode cX11_chance 85 = .ok (.goto (-58), 3) := by decide +kernel
theorem dX11_chance_88 : decode cX11_chance 88 = .ok (.iload_n 2, 1) := by decide +kernel
theorem dX11_chance_89 : decode cX11_chance 89 = .ok (.ireturn, 1) := by decide +kernel
theorem dX11_rise_0 : decode cX11_rise 0 = .ok (.aload_n 0, 1) := by decide +kernel
theorem dX11_rise_1 : decode cX11_rise 1 = .ok (.getfield 16, 3) := by decide +kernel
theorem dX11_rise_4 : decode cX11_rise 4 = .ok (.iload_n 1, 1) := by decide +kernel
theorem dX11_rise_5 : decode cX11_rise 5 = .ok (.invokevirtual 169, 3) := by decide +kernel
theorem dX11_rise_8 : decode cX11_rise 8 = .ok (.ifCond .eq 23, 3) := by decide +kernel
theorem dX11_rise_11 : decode cX11_rise 11 = .ok (.iload_n 2, 1) := by decide +kernel
theorem dX11_rise_12 : decode cX11_rise 12 = .ok (.invokestatic 198, 3) := by decide +kernel
theorem dX11_rise_15 : decode cX11_rise 15 = .ok (.ifCond .eq 16, 3) := by decide +kernel
theorem dX11_rise_18 : decode cX11_rise 18 = .ok (.aload_n 0, 1) := by decide +kernel
theorem dX11_rise_19 : decode cX11_rise 19 = .ok (.getfield 30, 3) := by decide +kernel
theorem dX11_rise_22 : decode cX11_rise 22 = .ok (.getfield 189, 3) := by decide +kernel
theorem dX11_rise_25 : decode cX11_rise 25 = .ok (.iload_n 1, 1) := by decide +kernel
theorem dX11_rise_26 : decode cX11_rise 26 = .ok (.iaload, 1) := by decide +kernel
theorem dX11_rise_27 : decode cX11_rise 27 = .ok (.iload_n 2, 1) := by decide +kernel
theorem dX11_rise_28 : decode cX11_rise 28 = .ok (.if_icmp .ne 11, 3) := by decide +kernel
theorem dX11_rise_31 : decode cX11_rise 31 = .ok (.aload_n 0, 1) := by decide +kernel
theorem dX11_rise_32 : decode cX11_rise 32 = .ok (.iconst 3, 1) := by decide +kernel
theorem dX11_rise_33 : decode cX11_rise 33 = .ok (.invokevirtual 98, 3) := by decide +kernel
theorem dX11_rise_36 : decode cX11_rise 36 = .ok (.pop, 1) := by decide +kernel
theorem dX11_rise_37 : decode cX11_rise 37 = .ok (.iconst 0, 1) := by decide +kernel
theorem dX11_rise_38 : decode cX11_rise 38 = .ok (.ireturn, 1) := by decide +kernel
theorem dX11_rise_39 : decode cX11_rise 39 = .ok (.aload_n 0, 1) := by decide +kernel
theorem dX11_rise_40 : decode cX11_rise 40 = .ok (.invokevirtual 298, 3) := by decide +kernel
theorem dX11_rise_43 : decode cX11_rise 43 = .ok (.aload_n 0, 1) := by decide +kernel
theorem dX11_rise_44 : decode cX11_rise 44 = .ok (.getfield 30, 3) := by decide +kernel
theorem dX11_rise_47 : decode cX11_rise 47 = .ok (.getfield 189, 3) := by decide +kernel
theorem dX11_rise_50 : decode cX11_rise 50 = .ok (.iload_n 1, 1) := by decide +kernel
theorem dX11_rise_51 : decode cX11_rise 51 = .ok (.iload_n 2, 1) := by decide +kernel
theorem dX11_rise_52 : decode cX11_rise 52 = .ok (.iastore, 1) := by decide +kernel
theorem dX11_rise_53 : decode cX11_rise 53 = .ok (.iconst 1, 1) := by decide +kernel
theorem dX11_rise_54 : decode cX11_rise 54 = .ok (.ireturn, 1) := by decide +kernel
theorem dX11_move_0 : decode cX11_move 0 = .ok (.aload_n 0, 1) := by decide +kernel
theorem dX11_move_1 : decode cX11_move 1 = .ok (.getfield 16, 3) := by decide +kernel
theorem dX11_move_4 : decode cX11_move 4 = .ok (.iload_n 2, 1) := by decide +kernel
theorem dX11_move_5 : decode cX11_move 5 = .ok (.iload_n 3, 1) := by decide +kernel
theorem dX11_move_6 : decode cX11_move 6 = .ok (.invokevirtual 176, 3) := by decide +kernel
theorem dX11_move_9 : decode cX11_move 9 = .ok (.istore 4, 2) := by decide +kernel
theorem dX11_move_11 : decode cX11_move 11 = .ok (.aload_n 0, 1) := by decide +kernel
theorem dX11_move_12 : decode cX11_move 12 = .ok (.getfield 16, 3) := by decide +kernel
theorem dX11_move_15 : decode cX11_move 15 = .ok (.iload_n 1, 1) := by decide +kernel
theorem dX11_move_16 : decode cX11_move 16 = .ok (.invokevirtual 169, 3) := by decide +kernel
theorem dX11_move_19 : decode cX11_move 19 = .ok (.ifCond .eq 23, 3) := by decide +kernel
theorem dX11_move_22 : decode cX11_move 22 = .ok (.iload 4, 2) := by decide +kernel
theorem dX11_move_24 : decode cX11_move 24 = .ok (.iconst (-1), 1) := by decide +kernel
theorem dX11_move_25 : decode cX11_move 25 = .ok (.if_icmp .eq 17, 3) := by decide +kernel
theorem dX11_move_28 : decode cX11_move 28 = .ok (.aload_n 0, 1) := by decide +kernel
theorem dX11_move_29 : decode cX11_move 29 = .ok (.getfield 30, 3) := by decide +kernel
theorem dX11_move_32 : decode cX11_move 32 = .ok (.getfield 180, 3) := by decide +kernel
theorem dX11_move_35 : decode cX11_move 35 = .ok (.iload_n 1, 1) := by decide +kernel
theorem dX11_move_36 : decode cX11_move 36 = .ok (.iaload, 1) := by decide +kernel
theorem dX11_move_37 : decode cX11_move 37 = .ok (.iload 4, 2) := by decide +kernel
theorem dX11_move_39 : decode cX11_move 39 = .ok (.if_icmp .ne 11, 3) := by decide +kernel
theorem dX11_move_42 : decode cX11_move 42 = .ok (.aload_n 0, 1) := by decide +kernel
theorem dX11_move_43 : decode cX11_move 43 = .ok (.iconst 3, 1) := by decide +kernel
theorem dX11_move_44 : decode cX11_move 44 = .ok (.invokevirtual 98, 3) := by decide +kernel
theorem dX11_move_47 : decode cX11_move 47 = .ok (.pop, 1) := by decide +kernel
theorem dX11_move_48 : decode cX11_move 48 = .ok (.iconst 0, 1) := by decide +kernel
theorem dX11_move_49 : decode cX11_move 49 = .ok (.ireturn, 1) := by decide +kernel
theorem dX11_move_50 : decode cX11_move 50 = .ok (.aload_n 0, 1) := by decide +kernel
theorem dX11_move_51 : decode cX11_move 51 = .ok (.invokevirtual 298, 3) := by decide +kernel
theorem dX11_move_54 : decode cX11_move 54 = .ok (.aload_n 0, 1) := by decide +kernel
theorem dX11_move_55 : decode cX11_move 55 = .ok (.getfield 30, 3) := by decide +kernel
theorem dX11_move_58 : decode cX11_move 58 = .ok (.getfield 180, 3) := by decide +kernel
theorem dX11_move_61 : decode cX11_move 61 = .ok (.iload_n 1, 1) := by decide +kernel
theorem dX11_move_62 : decode cX11_move 62 = .ok (.iload 4, 2) := by decide +kernel
theorem dX11_move_64 : decode cX11_move 64 = .ok (.iastore, 1) := by decide +kernel
theorem dX11_move_65 : decode cX11_move 65 = .ok (.iconst 1, 1) := by decide +kernel
theorem dX11_move_66 : decode cX11_move 66 = .ok (.ireturn, 1) := by decide +kernel
theorem dX11_weave_0 : decode cX11_weave 0 = .ok (.aload_n 0, 1) := by decide +kernel
theorem dX11_weave_1 : decode cX11_weave 1 = .ok (.getfield 16, 3) := by decide +kernel
theorem dX11_weave_4 : decode cX11_weave 4 = .ok (.iload_n 1, 1) := by decide +kernel
theorem dX11_weave_5 : decode cX11_weave 5 = .ok (.invokevirtual 169, 3) := by decide +kernel
theorem dX11_weave_8 : decode cX11_weave 8 = .ok (.ifCond .eq 27, 3) := by decide +kernel
theorem dX11_weave_11 : decode cX11_weave 11 = .ok (.iload_n 2, 1) := by decide +kernel
theorem dX11_weave_12 : decode cX11_weave 12 = .ok (.iconst 1, 1) := by decide +kernel
theorem dX11_weave_13 : decode cX11_weave 13 = .ok (.if_icmp .lt 22, 3) := by decide +kernel
theorem dX11_weave_16 : decode cX11_weave 16 = .ok (.iload_n 2, 1) := by decide +kernel
theorem dX11_weave_17 : decode cX11_weave 17 = .ok (.bipush 99, 2) := by decide +kernel
theorem dX11_weave_19 : decode cX11_weave 19 = .ok (.if_icmp .gt 16, 3) := by decide +kernel
theorem dX11_weave_22 : decode cX11_weave 22 = .ok (.aload_n 0, 1) := by decide +kernel
theorem dX11_weave_23 : decode cX11_weave 23 = .ok (.getfield 30, 3) := by decide +kernel
theorem dX11_weave_26 : decode cX11_weave 26 = .ok (.getfield 192, 3) := by decide +kernel
theorem dX11_weave_29 : decode cX11_weave 29 = .ok (.iload_n 1, 1) := by decide +kernel
theorem dX11_weave_30 : decode cX11_weave 30 = .ok (.iaload, 1) := by decide +kernel
theorem dX11_weave_31 : decode cX11_weave 31 = .ok (.iload_n 2, 1) := by decide +kernel
theorem dX11_weave_32 : decode cX11_weave 32 = .ok (.if_icmp .ne 11, 3) := by decide +kernel
theorem dX11_weave_35 : decode cX11_weave 35 = .ok (.aload_n 0, 1) := by decide +kernel
theorem dX11_weave_36 : decode cX11_weave 36 = .ok (.iconst 3, 1) := by decide +kernel
theorem dX11_weave_37 : decode cX11_weave 37 = .ok (.invokevirtual 98, 3) := by decide +kernel
theorem dX11_weave_40 : decode cX11_weave 40 = .ok (.pop, 1) := by decide +kernel
theorem dX11_weave_41 : decode cX11_weave 41 = .ok (.iconst 0, 1) := by decide +kernel
theorem dX11_weave_42 : decode cX11_weave 42 = .ok (.ireturn, 1) := by decide +kernel
theorem dX11_weave_43 : decode cX11_weave 43 = .ok (.aload_n 0, 1) := by decide +kernel
theorem dX11_weave_44 : decode cX11_weave 44 = .ok (.invokevirtual 298, 3) := by decide +kernel
theorem dX11_weave_47 : decode cX11_weave 47 = .ok (.aload_n 0, 1) := by decide +kernel
theorem dX11_weave_48 : decode cX11_weave 48 = .ok (.getfield 30, 3) := by decide +kernel
theorem dX11_weave_51 : decode cX11_weave 51 = .ok (.getfield 192, 3) := by decide +kernel
theorem dX11_weave_54 : decode cX11_weave 54 = .ok (.iload_n 1, 1) := by decide +kernel
theorem dX11_weave_55 : decode cX11_weave 55 = .ok (.iload_n 2, 1) := by decide +kernel
theorem dX11_weave_56 : decode cX11_weave 56 = .ok (.iastore, 1) := by decide +kernel
theorem dX11_weave_57 : decode cX11_weave 57 = .ok (.iconst 1, 1) := by decide +kernel
theorem dX11_weave_58 : decode cX11_weave 58 = .ok (.ireturn, 1) := by decide +kernel
theorem dX11_undo_0 : decode cX11_undo 0 = .ok (.aload_n 0, 1) := by decide +kernel
theorem dX11_undo_1 : decode cX11_undo 1 = .ok (.getfield 40, 3) := by decide +kernel
theorem dX11_undo_4 : decode cX11_undo 4 = .ok (.aload_n 0, 1) := by decide +kernel
theorem dX11_undo_5 : decode cX11_undo 5 = .ok (.getfield 30, 3) := by decide +kernel
theorem dX11_undo_8 : decode cX11_undo 8 = .ok (.invokevirtual 311, 3) := by decide +kernel
theorem dX11_undo_11 : decode cX11_undo 11 = .ok (.ifCond .ne 11, 3) := by decide +kernel
theorem dX11_undo_14 : decode cX11_undo 14 = .ok (.aload_n 0, 1) := by decide +kernel
theorem dX11_undo_15 : decode cX11_undo 15 = .ok (.iconst 4, 1) := by decide +kernel
theorem dX11_undo_16 : decode cX11_undo 16 = .ok (.invokevirtual 98, 3) := by decide +kernel
theorem dX11_undo_19 : decode cX11_undo 19 = .ok (.pop, 1) := by decide +kernel
theorem dX11_undo_20 : decode cX11_undo 20 = .ok (.iconst 0, 1) := by decide +kernel
theorem dX11_undo_21 : decode cX11_undo 21 = .ok (.ireturn, 1) := by decide +kernel
theorem dX11_undo_22 : decode cX11_undo 22 = .ok (.aload_n 0, 1) := by decide +kernel
theorem dX11_undo_23 : decode cX11_undo 23 = .ok (.invokevirtual 123, 3) := by decide +kernel
theorem dX11_undo_26 : decode cX11_undo 26 = .ok (.iconst 1, 1) := by decide +kernel
theorem dX11_undo_27 : decode cX11_undo 27 = .ok (.ireturn, 1) := by decide +kernel
theorem dX11_seed_0 : decode cX11_seed 0 = .ok (.iload_n 1, 1) := by decide +kernel
theorem dX11_seed_1 : decode cX11_seed 1 = .ok (.ifCond .ge 11, 3) := by decide +kernel
theorem dX11_seed_4 : decode cX11_seed 4 = .ok (.aload_n 0, 1) := by decide +kernel
theorem dX11_seed_5 : decode cX11_seed 5 = .ok (.iconst 5, 1) := by decide +kernel
theorem dX11_seed_6 : decode cX11_seed 6 = .ok (.invokevirtual 98, 3) := by decide +kernel
theorem dX11_seed_9 : decode cX11_seed 9 = .ok (.pop, 1) := by decide +kernel
theorem dX11_seed_10 : decode cX11_seed 10 = .ok (.iconst 0, 1) := by decide +kernel
theorem dX11_seed_11 : decode cX11_seed 11 = .ok (.ireturn, 1) := by decide +kernel
theorem dX11_seed_12 : decode cX11_seed 12 = .ok (.aload_n 0, 1) := by decide +kernel
theorem dX11_seed_13 : decode cX11_seed 13 = .ok (.iload_n 1, 1) := by decide +kernel
theorem dX11_seed_14 : decode cX11_seed 14 = .ok (.putfield 91, 3) := by decide +kernel
theorem dX11_seed_17 : decode cX11_seed 17 = .ok (.iconst 1, 1) := by decide +kernel
theorem dX11_seed_18 : decode cX11_seed 18 = .ok (.ireturn, 1) := by decide +kernel
theorem dX11_kept_0 : decode cX11_kept 0 = .ok (.iload_n 1, 1) := by decide +kernel
theorem dX11_kept_1 : decode cX11_kept 1 = .ok (.ifCond .lt 23, 3) := by decide +kernel
theorem dX11_kept_4 : decode cX11_kept 4 = .ok (.iload_n 1, 1) := by decide +kernel
theorem dX11_kept_5 : decode cX11_kept 5 = .ok (.aload_n 0, 1) := by decide +kernel
theorem dX11_kept_6 : decode cX11_kept 6 = .ok (.getfield 30, 3) := by decide +kernel
theorem dX11_kept_9 : decode cX11_kept 9 = .ok (.getfield 160, 3) := by decide +kernel
theorem dX11_kept_12 : decode cX11_kept 12 = .ok (.if_icmp .ge 12, 3) := by decide +kernel
theorem dX11_kept_15 : decode cX11_kept 15 = .ok (.iload_n 2, 1) := by decide +kernel
theorem dX11_kept_16 : decode cX11_kept 16 = .ok (.ifCond .lt 8, 3) := by decide +kernel
theorem dX11_kept_19 : decode cX11_kept 19 = .ok (.iload_n 2, 1) := by decide +kernel
theorem dX11_kept_20 : decode cX11_kept 20 = .ok (.iconst 3, 1) := by decide +kernel
theorem dX11_kept_21 : decode cX11_kept 21 = .ok (.if_icmp .lt 5, 3) := by decide +kernel
theorem dX11_kept_24 : decode cX11_kept 24 = .ok (.iconst (-1), 1) := by decide +kernel
theorem dX11_kept_25 : decode cX11_kept 25 = .ok (.ireturn, 1) := by decide +kernel
theorem dX11_kept_26 : decode cX11_kept 26 = .ok (.aload_n 0, 1) := by decide +kernel
theorem dX11_kept_27 : decode cX11_kept 27 = .ok (.getfield 30, 3) := by decide +kernel
theorem dX11_kept_30 : decode cX11_kept 30 = .ok (.getfield 315, 3) := by decide +kernel
theorem dX11_kept_33 : decode cX11_kept 33 = .ok (.iload_n 1, 1) := by decide +kernel
theorem dX11_kept_34 : decode cX11_kept 34 = .ok (.iconst 3, 1) := by decide +kernel
theorem dX11_kept_35 : decode cX11_kept 35 = .ok (.imul, 1) := by decide +kernel
theorem dX11_kept_36 : decode cX11_kept 36 = .ok (.iload_n 2, 1) := by decide +kernel
theorem dX11_kept_37 : decode cX11_kept 37 = .ok (.iadd, 1) := by decide +kernel
theorem dX11_kept_38 : decode cX11_kept 38 = .ok (.iaload, 1) := by decide +kernel
theorem dX11_kept_39 : decode cX11_kept 39 = .ok (.ireturn, 1) := by decide +kernel
theorem dX11_image_0 : decode cX11_image 0 = .ok (.aload_n 0, 1) := by decide +kernel
theorem dX11_image_1 : decode cX11_image 1 = .ok (.getfield 84, 3) := by decide +kernel
theorem dX11_image_4 : decode cX11_image 4 = .ok (.aload_n 0, 1) := by decide +kernel
theorem dX11_image_5 : decode cX11_image 5 = .ok (.getfield 16, 3) := by decide +kernel
theorem dX11_image_8 : decode cX11_image 8 = .ok (.aload_n 0, 1) := by decide +kernel
theorem dX11_image_9 : decode cX11_image 9 = .ok (.getfield 30, 3) := by decide +kernel
theorem dX11_image_12 : decode cX11_image 12 = .ok (.invokevirtual 318, 3) := by decide +kernel
theorem dX11_image_15 : decode cX11_image 15 = .ok (.aload_n 0, 1) := by decide +kernel
theorem dX11_image_16 : decode cX11_image 16 = .ok (.getfield 84, 3) := by decide +kernel
theorem dX11_image_19 : decode cX11_image 19 = .ok (.getfield 322, 3) := by decide +kernel
theorem dX11_image_22 : decode cX11_image 22 = .ok (.ireturn, 1) := by decide +kernel
theorem dX11_octet_0 : decode cX11_octet 0 = .ok (.iload_n 1, 1) := by decide +kernel
theorem dX11_octet_1 : decode cX11_octet 1 = .ok (.ifCond .lt 14, 3) := by decide +kernel
theorem dX11_octet_4 : decode cX11_octet 4 = .ok (.iload_n 1, 1) := by decide +kernel
theorem dX11_octet_5 : decode cX11_octet 5 = .ok (.aload_n 0, 1) := by decide +kernel
theorem dX11_octet_6 : decode cX11_octet 6 = .ok (.getfield 84, 3) := by decide +kernel
theorem dX11_octet_9 : decode cX11_octet 9 = .ok (.getfield 322, 3) := by decide +kernel
theorem dX11_octet_12 : decode cX11_octet 12 = .ok (.if_icmp .lt 7, 3) := by decide +kernel
theorem dX11_octet_15 : decode cX11_octet 15 = .ok (.iconst (-1), 1) := by decide +kernel
theorem dX11_octet_16 : decode cX11_octet 16 = .ok (.goto 12, 3) := by decide +kernel
theorem dX11_octet_19 : decode cX11_octet 19 = .ok (.aload_n 0, 1) := by decide +kernel
theorem dX11_octet_20 : decode cX11_octet 20 = .ok (.getfield 84, 3) := by decide +kernel
theorem dX11_octet_23 : decode cX11_octet 23 = .ok (.getfield 323, 3) := by decide +kernel
theorem dX11_octet_26 : decode cX11_octet 26 = .ok (.iload_n 1, 1) := by decide +kernel
theorem dX11_octet_27 : decode cX11_octet 27 = .ok (.iaload, 1) := by decide +kernel
theorem dX11_octet_28 : decode cX11_octet 28 = .ok (.ireturn, 1) := by decide +kernel
theorem dX11_on_0 : decode cX11_on 0 = .ok (.aload_n 0, 1) := by decide +kernel
theorem dX11_on_1 : decode cX11_on 1 = .ok (.getfield 95, 3) := by decide +kernel
theorem dX11_on_4 : decode cX11_on 4 = .ok (.istore_n 1, 1) := by decide +kernel
theorem dX11_on_5 : decode cX11_on 5 = .ok (.aload_n 0, 1) := by decide +kernel
theorem dX11_on_6 : decode cX11_on 6 = .ok (.iconst 0, 1) := by decide +kernel
theorem dX11_on_7 : decode cX11_on 7 = .ok (.putfield 95, 3) := by decide +kernel
theorem dX11_on_10 : decode cX11_on 10 = .ok (.aload_n 0, 1) := by decide +kernel
theorem dX11_on_11 : decode cX11_on 11 = .ok (.getfield 9, 3) := by decide +kernel
theorem dX11_on_14 : decode cX11_on 14 = .ok (.iload_n 1, 1) := by decide +kernel
theorem dX11_on_15 : decode cX11_on 15 = .ok (.aload_n 0, 1) := by decide +kernel
theorem dX11_on_16 : decode cX11_on 16 = .ok (.getfield 16, 3) := by decide +kernel
theorem dX11_on_19 : decode cX11_on 19 = .ok (.aload_n 0, 1) := by decide +kernel
theorem dX11_on_20 : decode cX11_on 20 = .ok (.getfield 34, 3) := by decide +kernel
theorem dX11_on_23 : decode cX11_on 23 = .ok (.invokestatic 326, 3) := by decide +kernel
theorem dX11_on_26 : decode cX11_on 26 = .ok (.ifCond .ne 11, 3) := by decide +kernel
theorem dX11_on_29 : decode cX11_on 29 = .ok (.aload_n 0, 1) := by decide +kernel
theorem dX11_on_30 : decode cX11_on 30 = .ok (.iconst 5, 1) := by decide +kernel
theorem dX11_on_31 : decode cX11_on 31 = .ok (.invokevirtual 98, 3) := by decide +kernel
theorem dX11_on_34 : decode cX11_on 34 = .ok (.pop, 1) := by decide +kernel
theorem dX11_on_35 : decode cX11_on 35 = .ok (.iconst 0, 1) := by decide +kernel
theorem dX11_on_36 : decode cX11_on 36 = .ok (.ireturn, 1) := by decide +kernel
theorem dX11_on_37 : decode cX11_on 37 = .ok (.aload_n 0, 1) := by decide +kernel
theorem dX11_on_38 : decode cX11_on 38 = .ok (.getfield 30, 3) := by decide +kernel
theorem dX11_on_41 : decode cX11_on 41 = .ok (.aload_n 0, 1) := by decide +kernel
theorem dX11_on_42 : decode cX11_on 42 = .ok (.getfield 34, 3) := by decide +kernel
theorem dX11_on_45 : decode cX11_on 45 = .ok (.invokevirtual 330, 3) := by decide +kernel
theorem dX11_on_48 : decode cX11_on 48 = .ok (.aload_n 0, 1) := by decide +kernel
theorem dX11_on_49 : decode cX11_on 49 = .ok (.getfield 40, 3) := by decide +kernel
theorem dX11_on_52 : decode cX11_on 52 = .ok (.invokevirtual 117, 3) := by decide +kernel
theorem dX11_on_55 : decode cX11_on 55 = .ok (.aload_n 0, 1) := by decide +kernel
theorem dX11_on_56 : decode cX11_on 56 = .ok (.invokevirtual 123, 3) := by decide +kernel
theorem dX11_on_59 : decode cX11_on 59 = .ok (.iconst 1, 1) := by decide +kernel
theorem dX11_on_60 : decode cX11_on 60 = .ok (.ireturn, 1) := by decide +kernel
theorem dX11_status_0 : decode cX11_status 0 = .ok (.iload_n 1, 1) := by decide +kernel
theorem dX11_status_1 : decode cX11_status 1 = .ok (.ifCond .lt 9, 3) := by decide +kernel
theorem dX11_status_4 : decode cX11_status 4 = .ok (.iload_n 1, 1) := by decide +kernel
theorem dX11_status_5 : decode cX11_status 5 = .ok (.bipush 6, 2) := by decide +kernel
theorem dX11_status_7 : decode cX11_status 7 = .ok (.if_icmp .lt 7, 3) := by decide +kernel
theorem dX11_status_10 : decode cX11_status 10 = .ok (.iconst (-1), 1) := by decide +kernel
theorem dX11_status_11 : decode cX11_status 11 = .ok (.goto 9, 3) := by decide +kernel
theorem dX11_status_14 : decode cX11_status 14 = .ok (.aload_n 0, 1) := by decide +kernel
theorem dX11_status_15 : decode cX11_status 15 = .ok (.getfield 88, 3) := by decide +kernel
theorem dX11_status_18 : decode cX11_status 18 = .ok (.iload_n 1, 1) := by decide +kernel
theorem dX11_status_19 : decode cX11_status 19 = .ok (.iaload, 1) := by decide +kernel
theorem dX11_status_20 : decode cX11_status 20 = .ok (.ireturn, 1) := by decide +kernel
theorem dX11_refuse_0 : decode cX11_refuse 0 = .ok (.iload_n 1, 1) := by decide +kernel
theorem dX11_refuse_1 : decode cX11_refuse 1 = .ok (.ifCond .lt 19, 3) := by decide +kernel
theorem dX11_refuse_4 : decode cX11_refuse 4 = .ok (.iload_n 1, 1) := by decide +kernel
theorem dX11_refuse_5 : decode cX11_refuse 5 = .ok (.bipush 6, 2) := by decide +kernel
theorem dX11_refuse_7 : decode cX11_refuse 7 = .ok (.if_icmp .ge 13, 3) := by decide +kernel
theorem dX11_refuse_10 : decode cX11_refuse 10 = .ok (.aload_n 0, 1) := by decide +kernel
theorem dX11_refuse_11 : decode cX11_refuse 11 = .ok (.getfield 88, 3) := by decide +kernel
theorem dX11_refuse_14 : decode cX11_refuse 14 = .ok (.iload_n 1, 1) := by decide +kernel
theorem dX11_refuse_15 : decode cX11_refuse 15 = .ok (.dup2, 1) := by decide +kernel
theorem dX11_refuse_16 : decode cX11_refuse 16 = .ok (.iaload, 1) := by decide +kernel
theorem dX11_refuse_17 : decode cX11_refuse 17 = .ok (.iconst 1, 1) := by decide +kernel
theorem dX11_refuse_18 : decode cX11_refuse 18 = .ok (.iadd, 1) := by decide +kernel
theorem dX11_refuse_19 : decode cX11_refuse 19 = .ok (.iastore, 1) := by decide +kernel
theorem dX11_refuse_20 : decode cX11_refuse 20 = .ok (.iconst (-1), 1) := by decide +kernel
theorem dX11_refuse_21 : decode cX11_refuse 21 = .ok (.ireturn, 1) := by decide +kernel
theorem dX11_put_0 : decode cX11_put 0 = .ok (.bipush 24, 2) := by decide +kernel
theorem dX11_put_2 : decode cX11_put 2 = .ok (.istore_n 2, 1) := by decide +kernel
theorem dX11_put_3 : decode cX11_put 3 = .ok (.iload_n 2, 1) := by decide +kernel
theorem dX11_put_4 : decode cX11_put 4 = .ok (.ifCond .lt 45, 3) := by decide +kernel
theorem dX11_put_7 : decode cX11_put 7 = .ok (.aload_n 0, 1) := by decide +kernel
theorem dX11_put_8 : decode cX11_put 8 = .ok (.getfield 95, 3) := by decide +kernel
theorem dX11_put_11 : decode cX11_put 11 = .ok (.sipush 1600, 3) := by decide +kernel
theorem dX11_put_14 : decode cX11_put 14 = .ok (.if_icmp .ge 29, 3) := by decide +kernel
theorem dX11_put_17 : decode cX11_put 17 = .ok (.aload_n 0, 1) := by decide +kernel
theorem dX11_put_18 : decode cX11_put 18 = .ok (.getfield 9, 3) := by decide +kernel
theorem dX11_put_21 : decode cX11_put 21 = .ok (.aload_n 0, 1) := by decide +kernel
theorem dX11_put_22 : decode cX11_put 22 = .ok (.getfield 95, 3) := by decide +kernel
theorem dX11_put_25 : decode cX11_put 25 = .ok (.iload_n 1, 1) := by decide +kernel
theorem dX11_put_26 : decode cX11_put 26 = .ok (.iload_n 2, 1) := by decide +kernel
theorem dX11_put_27 : decode cX11_put 27 = .ok (.ishr, 1) := by decide +kernel
theorem dX11_put_28 : decode cX11_put 28 = .ok (.sipush 255, 3) := by decide +kernel
theorem dX11_put_31 : decode cX11_put 31 = .ok (.iand, 1) := by decide +kernel
theorem dX11_put_32 : decode cX11_put 32 = .ok (.iastore, 1) := by decide +kernel
theorem dX11_put_33 : decode cX11_put 33 = .ok (.aload_n 0, 1) := by decide +kernel
theorem dX11_put_34 : decode cX11_put 34 = .ok (.dup, 1) := by decide +kernel
theorem dX11_put_35 : decode cX11_put 35 = .ok (.getfield 95, 3) := by decide +kernel
theorem dX11_put_38 : decode cX11_put 38 = .ok (.iconst 1, 1) := by decide +kernel
theorem dX11_put_39 : decode cX11_put 39 = .ok (.iadd, 1) := by decide +kernel
theorem dX11_put_40 : decode cX11_put 40 = .ok (.putfield 95, 3) := by decide +kernel
theorem dX11_put_43 : decode cX11_put 43 = .ok (.iinc 2 (-8), 3) := by decide +kernel
theorem dX11_put_46 : decode cX11_put 46 = .ok (.goto (-43), 3) := by decide +kernel
theorem dX11_put_49 : decode cX11_put 49 = .ok (.return_, 1) := by decide +kernel
theorem dX11_beginAct_0 : decode cX11_beginAct 0 = .ok (.aload_n 0, 1) := by decide +kernel
theorem dX11_beginAct_1 : decode cX11_beginAct 1 = .ok (.getfield 40, 3) := by decide +kernel
theorem dX11_beginAct_4 : decode cX11_beginAct 4 = .ok (.aload_n 0, 1) := by decide +kernel
theorem dX11_beginAct_5 : decode cX11_beginAct 5 = .ok (.getfield 30, 3) := by decide +kernel
theorem dX11_beginAct_8 : decode cX11_beginAct 8 = .ok (.invokevirtual 332, 3) := by decide +kernel
theorem dX11_beginAct_11 : decode cX11_beginAct 11 = .ok (.aload_n 0, 1) := by decide +kernel
theorem dX11_beginAct_12 : decode cX11_beginAct 12 = .ok (.invokevirtual 123, 3) := by decide +kernel
theorem dX11_beginAct_15 : decode cX11_beginAct 15 = .ok (.return_, 1) := by decide +kernel
theorem dX11_forgetAnswers_0 : decode cX11_forgetAnswers 0 = .ok (.aload_n 0, 1) := by decide +kernel
theorem dX11_forgetAnswers_1 : decode cX11_forgetAnswers 1 = .ok (.getfield 56, 3) := by decide +kernel
theorem dX11_forgetAnswers_4 : decode cX11_forgetAnswers 4 = .ok (.invokevirtual 335, 3) := by decide +kernel
theorem dX11_forgetAnswers_7 : decode cX11_forgetAnswers 7 = .ok (.aload_n 0, 1) := by decide +kernel
theorem dX11_forgetAnswers_8 : decode cX11_forgetAnswers 8 = .ok (.getfield 63, 3) := by decide +kernel
theorem dX11_forgetAnswers_11 : decode cX11_forgetAnswers 11 = .ok (.invokevirtual 336, 3) := by decide +kernel
theorem dX11_forgetAnswers_14 : decode cX11_forgetAnswers 14 = .ok (.aload_n 0, 1) := by decide +kernel
theorem dX11_forgetAnswers_15 : decode cX11_forgetAnswers 15 = .ok (.getfield 70, 3) := by decide +kernel
theorem dX11_forgetAnswers_18 : decode cX11_forgetAnswers 18 = .ok (.invokevirtual 337, 3) := by decide +kernel
theorem dX11_forgetAnswers_21 : decode cX11_forgetAnswers 21 = .ok (.aload_n 0, 1) := by decide +kernel
theorem dX11_forgetAnswers_22 : decode cX11_forgetAnswers 22 = .ok (.getfield 77, 3) := by decide +kernel
theorem dX11_forgetAnswers_25 : decode cX11_forgetAnswers 25 = .ok (.invokevirtual 338, 3) := by decide +kernel
theorem dX11_forgetAnswers_28 : decode cX11_forgetAnswers 28 = .ok (.return_, 1) := by decide +kernel
theorem dX11_daysLeft_0 : decode cX11_daysLeft 0 = .ok (.bipush 40, 2) := by decide +kernel
theorem dX11_daysLeft_2 : decode cX11_daysLeft 2 = .ok (.sipush 999, 3) := by decide +kernel
theorem dX11_daysLeft_5 : decode cX11_daysLeft 5 = .ok (.aload_n 0, 1) := by decide +kernel
theorem dX11_daysLeft_6 : decode cX11_daysLeft 6 = .ok (.getfield 30, 3) := by decide +kernel
theorem dX11_daysLeft_9 : decode cX11_daysLeft 9 = .ok (.getfield 144, 3) := by decide +kernel
theorem dX11_daysLeft_12 : decode cX11_daysLeft 12 = .ok (.isub, 1) := by decide +kernel
theorem dX11_daysLeft_13 : decode cX11_daysLeft 13 = .ok (.invokestatic 339, 3) := by decide +kernel
theorem dX11_daysLeft_16 : decode cX11_daysLeft 16 = .ok (.ireturn, 1) := by decide +kernel
theorem dX11_daysAhead_0 : decode cX11_daysAhead 0 = .ok (.bipush 40, 2) := by decide +kernel
theorem dX11_daysAhead_2 : decode cX11_daysAhead 2 = .ok (.sipush 999, 3) := by decide +kernel
theorem dX11_daysAhead_5 : decode cX11_daysAhead 5 = .ok (.aload_n 0, 1) := by decide +kernel
theorem dX11_daysAhead_6 : decode cX11_daysAhead 6 = .ok (.getfield 30, 3) := by decide +kernel
theorem dX11_daysAhead_9 : decode cX11_daysAhead 9 = .ok (.getfield 144, 3) := by decide +kernel
theorem dX11_daysAhead_12 : decode cX11_daysAhead 12 = .ok (.isub, 1) := by decide +kernel
theorem dX11_daysAhead_13 : decode cX11_daysAhead 13 = .ok (.iconst 1, 1) := by decide +kernel
theorem dX11_daysAhead_14 : decode cX11_daysAhead 14 = .ok (.iadd, 1) := by decide +kernel
theorem dX11_daysAhead_15 : decode cX11_daysAhead 15 = .ok (.invokestatic 339, 3) := by decide +kernel
theorem dX11_daysAhead_18 : decode cX11_daysAhead 18 = .ok (.ireturn, 1) := by decide +kernel
theorem dX11_draw_0 : decode cX11_draw 0 = .ok (.ldc2_w 344, 3) := by decide +kernel
theorem dX11_draw_3 : decode cX11_draw 3 = .ok (.aload_n 0, 1) := by decide +kernel
theorem dX11_draw_4 : decode cX11_draw 4 = .ok (.getfield 91, 3) := by decide +kernel
theorem dX11_draw_7 : decode cX11_draw 7 = .ok (.i2l, 1) := by decide +kernel
theorem dX11_draw_8 : decode cX11_draw 8 = .ok (.lmul, 1) := by decide +kernel
theorem dX11_draw_9 : decode cX11_draw 9 = .ok (.ldc2_w 346, 3) := by decide +kernel
theorem dX11_draw_12 : decode cX11_draw 12 = .ok (.ladd, 1) := by decide +kernel
theorem dX11_draw_13 : decode cX11_draw 13 = .ok (.ldc2_w 348, 3) := by decide +kernel
theorem dX11_draw_16 : decode cX11_draw 16 = .ok (.lrem, 1) := by decide +kernel
theorem dX11_draw_17 : decode cX11_draw 17 = .ok (.lstore_n 2, 1) := by decide +kernel
theorem dX11_draw_18 : decode cX11_draw 18 = .ok (.aload_n 0, 1) := by decide +kernel
theorem dX11_draw_19 : decode cX11_draw 19 = .ok (.lload_n 2, 1) := by decide +kernel
theorem dX11_draw_20 : decode cX11_draw 20 = .ok (.l2i, 1) := by decide +kernel
theorem dX11_draw_21 : decode cX11_draw 21 = .ok (.putfield 91, 3) := by decide +kernel
theorem dX11_draw_24 : decode cX11_draw 24 = .ok (.iload_n 1, 1) := by decide +kernel
theorem dX11_draw_25 : decode cX11_draw 25 = .ok (.iconst 1, 1) := by decide +kernel
theorem dX11_draw_26 : decode cX11_draw 26 = .ok (.if_icmp .ge 7, 3) := by decide +kernel
theorem dX11_draw_29 : decode cX11_draw 29 = .ok (.iconst 0, 1) := by decide +kernel
theorem dX11_draw_30 : decode cX11_draw 30 = .ok (.goto 12, 3) := by decide +kernel
theorem dX11_draw_33 : decode cX11_draw 33 = .ok (.lload_n 2, 1) := by decide +kernel
theorem dX11_draw_34 : decode cX11_draw 34 = .ok (.ldc2_w 350, 3) := by decide +kernel
theorem dX11_draw_37 : decode cX11_draw 37 = .ok (.ldiv, 1) := by decide +kernel
theorem dX11_draw_38 : decode cX11_draw 38 = .ok (.iload_n 1, 1) := by decide +kernel
theorem dX11_draw_39 : decode cX11_draw 39 = .ok (.i2l, 1) := by decide +kernel
theorem dX11_draw_40 : decode cX11_draw 40 = .ok (.lrem, 1) := by decide +kernel
theorem dX11_draw_41 : decode cX11_draw 41 = .ok (.l2i, 1) := by decide +kernel
theorem dX11_draw_42 : decode cX11_draw 42 = .ok (.ireturn, 1) := by decide +kernel
theorem dX11_isHour_0 : decode cX11_isHour 0 = .ok (.iload_n 0, 1) := by decide +kernel
theorem dX11_isHour_1 : decode cX11_isHour 1 = .ok (.ifCond .lt 13, 3) := by decide +kernel
theorem dX11_isHour_4 : decode cX11_isHour 4 = .ok (.iload_n 0, 1) := by decide +kernel
theorem dX11_isHour_5 : decode cX11_isHour 5 = .ok (.bipush 8, 2) := by decide +kernel
theorem dX11_isHour_7 : decode cX11_isHour 7 = .ok (.if_icmp .gt 7, 3) := by decide +kernel
theorem dX11_isHour_10 : decode cX11_isHour 10 = .ok (.iconst 1, 1) := by decide +kernel
theorem dX11_isHour_11 : decode cX11_isHour 11 = .ok (.goto 4, 3) := by decide +kernel
theorem dX11_isHour_14 : decode cX11_isHour 14 = .ok (.iconst 0, 1) := by decide +kernel
theorem dX11_isHour_15 : decode cX11_isHour 15 = .ok (.ireturn, 1) := by decide +kernel
theorem dX11_total_0 : decode cX11_total 0 = .ok (.iconst 0, 1) := by decide +kernel
theorem dX11_total_1 : decode cX11_total 1 = .ok (.istore_n 2, 1) := by decide +kernel
theorem dX11_total_2 : decode cX11_total 2 = .ok (.iconst 0, 1) := by decide +kernel
theorem dX11_total_3 : decode cX11_total 3 = .ok (.istore_n 3, 1) := by decide +kernel
theorem dX11_total_4 : decode cX11_total 4 = .ok (.iload_n 3, 1) := by decide +kernel
theorem dX11_total_5 : decode cX11_total 5 = .ok (.iload_n 1, 1) := by decide +kernel
theorem dX11_total_6 : decode cX11_total 6 = .ok (.if_icmp .ge 21, 3) := by decide +kernel
theorem dX11_total_9 : decode cX11_total 9 = .ok (.iload_n 3, 1) := by decide +kernel
theorem dX11_total_10 : decode cX11_total 10 = .ok (.aload_n 0, 1) := by decide +kernel
theorem dX11_total_11 : decode cX11_total 11 = .ok (.arraylength, 1) := by decide +kernel
theorem dX11_total_12 : decode cX11_total 12 = .ok (.if_icmp .ge 15, 3) := by decide +kernel
theorem dX11_total_15 : decode cX11_total 15 = .ok (.iload_n 2, 1) := by decide +kernel
theorem dX11_total_16 : decode cX11_total 16 = .ok (.aload_n 0, 1) := by decide +kernel
theorem dX11_total_17 : decode cX11_total 17 = .ok (.iload_n 3, 1) := by decide +kernel
theorem dX11_total_18 : decode cX11_total 18 = .ok (.iaload, 1) := by decide +kernel
theorem dX11_total_19 : decode cX11_total 19 = .ok (.iadd, 1) := by decide +kernel
theorem dX11_total_20 : decode cX11_total 20 = .ok (.istore_n 2, 1) := by decide +kernel
theorem dX11_total_21 : decode cX11_total 21 = .ok (.iinc 3 1, 3) := by decide +kernel
theorem dX11_total_24 : decode cX11_total 24 = .ok (.goto (-20), 3) := by decide +kernel
theorem dX11_total_27 : decode cX11_total 27 = .ok (.iload_n 2, 1) := by decide +kernel
theorem dX11_total_28 : decode cX11_total 28 = .ok (.ireturn, 1) := by decide +kernel
theorem dJ9_floorDiv_f86c9_0 : decode cJ9_floorDiv_f86c9 0 = .ok (.lload_n 0, 1) := by decide +kernel
theorem dJ9_floorDiv_f86c9_1 : decode cJ9_floorDiv_f86c9 1 = .ok (.lload_n 2, 1) := by decide +kernel
theorem dJ9_floorDiv_f86c9_2 : decode cJ9_floorDiv_f86c9 2 = .ok (.ldiv, 1) := by decide +kernel
theorem dJ9_floorDiv_f86c9_3 : decode cJ9_floorDiv_f86c9 3 = .ok (.lstore 4, 2) := by decide +kernel
theorem dJ9_floorDiv_f86c9_5 : decode cJ9_floorDiv_f86c9 5 = .ok (.lload_n 0, 1) := by decide +kernel
theorem dJ9_floorDiv_f86c9_6 : decode cJ9_floorDiv_f86c9 6 = .ok (.lload_n 2, 1) := by decide +kernel
theorem dJ9_floorDiv_f86c9_7 : decode cJ9_floorDiv_f86c9 7 = .ok (.lxor, 1) := by decide +kernel
theorem dJ9_floorDiv_f86c9_8 : decode cJ9_floorDiv_f86c9 8 = .ok (.lconst 0, 1) := by decide +kernel
theorem dJ9_floorDiv_f86c9_9 : decode cJ9_floorDiv_f86c9 9 = .ok (.lcmp, 1) := by decide +kernel
theorem dJ9_floorDiv_f86c9_10 : decode cJ9_floorDiv_f86c9 10 = .ok (.ifCond .ge 17, 3) := by decide +kernel
theorem dJ9_floorDiv_f86c9_13 : decode cJ9_floorDiv_f86c9 13 = .ok (.lload 4, 2) := by decide +kernel
theorem dJ9_floorDiv_f86c9_15 : decode cJ9_floorDiv_f86c9 15 = .ok (.lload_n 2, 1) := by decide +kernel
theorem dJ9_floorDiv_f86c9_16 : decode cJ9_floorDiv_f86c9 16 = .ok (.lmul, 1) := by decide +kernel
theorem dJ9_floorDiv_f86c9_17 : decode cJ9_floorDiv_f86c9 17 = .ok (.lload_n 0, 1) := by decide +kernel
theorem dJ9_floorDiv_f86c9_18 : decode cJ9_floorDiv_f86c9 18 = .ok (.lcmp, 1) := by decide +kernel
theorem dJ9_floorDiv_f86c9_19 : decode cJ9_floorDiv_f86c9 19 = .ok (.ifCond .eq 8, 3) := by decide +kernel
theorem dJ9_floorDiv_f86c9_22 : decode cJ9_floorDiv_f86c9 22 = .ok (.lload 4, 2) := by decide +kernel
theorem dJ9_floorDiv_f86c9_24 : decode cJ9_floorDiv_f86c9 24 = .ok (.lconst 1, 1) := by decide +kernel
theorem dJ9_floorDiv_f86c9_25 : decode cJ9_floorDiv_f86c9 25 = .ok (.lsub, 1) := by decide +kernel
theorem dJ9_floorDiv_f86c9_26 : decode cJ9_floorDiv_f86c9 26 = .ok (.lreturn, 1) := by decide +kernel
theorem dJ9_floorDiv_f86c9_27 : decode cJ9_floorDiv_f86c9 27 = .ok (.lload 4, 2) := by decide +kernel
theorem dJ9_floorDiv_f86c9_29 : decode cJ9_floorDiv_f86c9 29 = .ok (.lreturn, 1) := by decide +kernel
theorem dJ9_floorMod_f86c9_0 : decode cJ9_floorMod_f86c9 0 = .ok (.lload_n 0, 1) := by decide +kernel
theorem dJ9_floorMod_f86c9_1 : decode cJ9_floorMod_f86c9 1 = .ok (.lload_n 2, 1) := by decide +kernel
theorem dJ9_floorMod_f86c9_2 : decode cJ9_floorMod_f86c9 2 = .ok (.lrem, 1) := by decide +kernel
theorem dJ9_floorMod_f86c9_3 : decode cJ9_floorMod_f86c9 3 = .ok (.lstore 4, 2) := by decide +kernel
theorem dJ9_floorMod_f86c9_5 : decode cJ9_floorMod_f86c9 5 = .ok (.lload_n 0, 1) := by decide +kernel
theorem dJ9_floorMod_f86c9_6 : decode cJ9_floorMod_f86c9 6 = .ok (.lload_n 2, 1) := by decide +kernel
theorem dJ9_floorMod_f86c9_7 : decode cJ9_floorMod_f86c9 7 = .ok (.lxor, 1) := by decide +kernel
theorem dJ9_floorMod_f86c9_8 : decode cJ9_floorMod_f86c9 8 = .ok (.lconst 0, 1) := by decide +kernel
theorem dJ9_floorMod_f86c9_9 : decode cJ9_floorMod_f86c9 9 = .ok (.lcmp, 1) := by decide +kernel
theorem dJ9_floorMod_f86c9_10 : decode cJ9_floorMod_f86c9 10 = .ok (.ifCond .ge 15, 3) := by decide +kernel
theorem dJ9_floorMod_f86c9_13 : decode cJ9_floorMod_f86c9 13 = .ok (.lload 4, 2) := by decide +kernel
theorem dJ9_floorMod_f86c9_15 : decode cJ9_floorMod_f86c9 15 = .ok (.lconst 0, 1) := by decide +kernel
theorem dJ9_floorMod_f86c9_16 : decode cJ9_floorMod_f86c9 16 = .ok (.lcmp, 1) := by decide +kernel
theorem dJ9_floorMod_f86c9_17 : decode cJ9_floorMod_f86c9 17 = .ok (.ifCond .eq 8, 3) := by decide +kernel
theorem dJ9_floorMod_f86c9_20 : decode cJ9_floorMod_f86c9 20 = .ok (.lload 4, 2) := by decide +kernel
theorem dJ9_floorMod_f86c9_22 : decode cJ9_floorMod_f86c9 22 = .ok (.lload_n 2, 1) := by decide +kernel
theorem dJ9_floorMod_f86c9_23 : decode cJ9_floorMod_f86c9 23 = .ok (.ladd, 1) := by decide +kernel
theorem dJ9_floorMod_f86c9_24 : decode cJ9_floorMod_f86c9 24 = .ok (.lreturn, 1) := by decide +kernel
theorem dJ9_floorMod_f86c9_25 : decode cJ9_floorMod_f86c9 25 = .ok (.lload 4, 2) := by decide +kernel
theorem dJ9_floorMod_f86c9_27 : decode cJ9_floorMod_f86c9 27 = .ok (.lreturn, 1) := by decide +kernel
