theorem dX8_init_0 : decode cX8_init 0 = .ok (.aload_n 0, 1) := by decide +kernel
theorem dX8_init_1 : decode cX8_init 1 = .ok (.invokespecial 1, 3) := by decide +kernel
theorem dX8_init_4 : decode cX8_init 4 = .ok (.aload_n 0, 1) := by decide +kernel
theorem dX8_init_5 : decode cX8_init 5 = .ok (.bipush 120, 2) := by decide +kernel
theorem dX8_init_7 : decode cX8_init 7 = .ok (.newarray .int, 2) := by decide +kernel
theorem dX8_init_9 : decode cX8_init 9 = .ok (.putfield 7, 3) := by decide +kernel
theorem dX8_init_12 : decode cX8_init 12 = .ok (.aload_n 0, 1) := by decide +kernel
theorem dX8_init_13 : decode cX8_init 13 = .ok (.bipush 96, 2) := by decide +kernel
theorem dX8_init_15 : decode cX8_init 15 = .ok (.newarray .int, 2) := by decide +kernel
theorem dX8_init_17 : decode cX8_init 17 = .ok (.putfield 13, 3) := by decide +kernel
theorem dX8_init_20 : decode cX8_init 20 = .ok (.aload_n 0, 1) := by decide +kernel
theorem dX8_init_21 : decode cX8_init 21 = .ok (.bipush 96, 2) := by decide +kernel
theorem dX8_init_23 : decode cX8_init 23 = .ok (.newarray .int, 2) := by decide +kernel
theorem dX8_init_25 : decode cX8_init 25 = .ok (.putfield 16, 3) := by decide +kernel
theorem dX8_init_28 : decode cX8_init 28 = .ok (.aload_n 0, 1) := by decide +kernel
theorem dX8_init_29 : decode cX8_init 29 = .ok (.bipush 96, 2) := by decide +kernel
theorem dX8_init_31 : decode cX8_init 31 = .ok (.newarray .int, 2) := by decide +kernel
theorem dX8_init_33 : decode cX8_init 33 = .ok (.putfield 19, 3) := by decide +kernel
theorem dX8_init_36 : decode cX8_init 36 = .ok (.aload_n 0, 1) := by decide +kernel
theorem dX8_init_37 : decode cX8_init 37 = .ok (.sipush 1344, 3) := by decide +kernel
theorem dX8_init_40 : decode cX8_init 40 = .ok (.newarray .int, 2) := by decide +kernel
theorem dX8_init_42 : decode cX8_init 42 = .ok (.putfield 22, 3) := by decide +kernel
theorem dX8_init_45 : decode cX8_init 45 = .ok (.aload_n 0, 1) := by decide +kernel
theorem dX8_init_46 : decode cX8_init 46 = .ok (.sipush 192, 3) := by decide +kernel
theorem dX8_init_49 : decode cX8_init 49 = .ok (.newarray .int, 2) := by decide +kernel
theorem dX8_init_51 : decode cX8_init 51 = .ok (.putfield 25, 3) := by decide +kernel
theorem dX8_init_54 : decode cX8_init 54 = .ok (.aload_n 0, 1) := by decide +kernel
theorem dX8_init_55 : decode cX8_init 55 = .ok (.iconst 2, 1) := by decide +kernel
theorem dX8_init_56 : decode cX8_init 56 = .ok (.newarray .boolean, 2) := by decide +kernel
theorem dX8_init_58 : decode cX8_init 58 = .ok (.putfield 28, 3) := by decide +kernel
theorem dX8_init_61 : decode cX8_init 61 = .ok (.aload_n 0, 1) := by decide +kernel
theorem dX8_init_62 : decode cX8_init 62 = .ok (.bipush 8, 2) := by decide +kernel
theorem dX8_init_64 : decode cX8_init 64 = .ok (.newarray .int, 2) := by decide +kernel
theorem dX8_init_66 : decode cX8_init 66 = .ok (.putfield 32, 3) := by decide +kernel
theorem dX8_init_69 : decode cX8_init 69 = .ok (.aload_n 0, 1) := by decide +kernel
theorem dX8_init_70 : decode cX8_init 70 = .ok (.bipush 8, 2) := by decide +kernel
theorem dX8_init_72 : decode cX8_init 72 = .ok (.newarray .int, 2) := by decide +kernel
theorem dX8_init_74 : decode cX8_init 74 = .ok (.putfield 35, 3) := by decide +kernel
theorem dX8_init_77 : decode cX8_init 77 = .ok (.aload_n 0, 1) := by decide +kernel
theorem dX8_init_78 : decode cX8_init 78 = .ok (.bipush 8, 2) := by decide +kernel
theorem dX8_init_80 : decode cX8_init 80 = .ok (.newarray .long, 2) := by decide +kernel
theorem dX8_init_82 : decode cX8_init 82 = .ok (.putfield 38, 3) := by decide +kernel
theorem dX8_init_85 : decode cX8_init 85 = .ok (.aload_n 0, 1) := by decide +kernel
theorem dX8_init_86 : decode cX8_init 86 = .ok (.bipush 8, 2) := by decide +kernel
theorem dX8_init_88 : decode cX8_init 88 = .ok (.newarray .long, 2) := by decide +kernel
theorem dX8_init_90 : decode cX8_init 90 = .ok (.putfield 42, 3) := by decide +kernel
theorem dX8_init_93 : decode cX8_init 93 = .ok (.aload_n 0, 1) := by decide +kernel
theorem dX8_init_94 : decode cX8_init 94 = .ok (.bipush 8, 2) := by decide +kernel
theorem dX8_init_96 : decode cX8_init 96 = .ok (.newarray .int, 2) := by decide +kernel
theorem dX8_init_98 : decode cX8_init 98 = .ok (.putfield 45, 3) := by decide +kernel
theorem dX8_init_101 : decode cX8_init 101 = .ok (.aload_n 0, 1) := by decide +kernel
theorem dX8_init_102 : decode cX8_init 102 = .ok (.sipush 480, 3) := by decide +kernel
theorem dX8_init_105 : decode cX8_init 105 = .ok (.newarray .int, 2) := by decide +kernel
theorem dX8_init_107 : decode cX8_init 107 = .ok (.putfield 48, 3) := by decide +kernel
theorem dX8_init_110 : decode cX8_init 110 = .ok (.aload_n 0, 1) := by decide +kernel
theorem dX8_init_111 : decode cX8_init 111 = .ok (.bipush 14, 2) := by decide +kernel
theorem dX8_init_113 : decode cX8_init 113 = .ok (.newarray .int, 2) := by decide +kernel
theorem dX8_init_115 : decode cX8_init 115 = .ok (.putfield 51, 3) := by decide +kernel
theorem dX8_init_118 : decode cX8_init 118 = .ok (.aload_n 0, 1) := by decide +kernel
theorem dX8_init_119 : decode cX8_init 119 = .ok (.bipush 64, 2) := by decide +kernel
theorem dX8_init_121 : decode cX8_init 121 = .ok (.newarray .int, 2) := by decide +kernel
theorem dX8_init_123 : decode cX8_init 123 = .ok (.putfield 54, 3) := by decide +kernel
theorem dX8_init_126 : decode cX8_init 126 = .ok (.aload_n 0, 1) := by decide +kernel
theorem dX8_init_127 : decode cX8_init 127 = .ok (.bipush 96, 2) := by decide +kernel
theorem dX8_init_129 : decode cX8_init 129 = .ok (.newarray .int, 2) := by decide +kernel
theorem dX8_init_131 : decode cX8_init 131 = .ok (.putfield 57, 3) := by decide +kernel
theorem dX8_init_134 : decode cX8_init 134 = .ok (.return_, 1) := by decide +kernel
theorem dX8_thrown_0 : decode cX8_thrown 0 = .ok (.aload_n 0, 1) := by decide +kernel
theorem dX8_thrown_1 : decode cX8_thrown 1 = .ok (.getfield 60, 3) := by decide +kernel
theorem dX8_thrown_4 : decode cX8_thrown 4 = .ok (.ireturn, 1) := by decide +kernel
theorem dX8_refused_0 : decode cX8_refused 0 = .ok (.aload_n 0, 1) := by decide +kernel
theorem dX8_refused_1 : decode cX8_refused 1 = .ok (.iload_n 1, 1) := by decide +kernel
theorem dX8_refused_2 : decode cX8_refused 2 = .ok (.putfield 60, 3) := by decide +kernel
theorem dX8_refused_5 : decode cX8_refused 5 = .ok (.iload_n 1, 1) := by decide +kernel
theorem dX8_refused_6 : decode cX8_refused 6 = .ok (.ifCond .le 7, 3) := by decide +kernel
theorem dX8_refused_9 : decode cX8_refused 9 = .ok (.iconst 1, 1) := by decide +kernel
theorem dX8_refused_10 : decode cX8_refused 10 = .ok (.goto 4, 3) := by decide +kernel
theorem dX8_refused_13 : decode cX8_refused 13 = .ok (.iconst 0, 1) := by decide +kernel
theorem dX8_refused_14 : decode cX8_refused 14 = .ok (.ireturn, 1) := by decide +kernel
theorem dX8_in_0 : decode cX8_in 0 = .ok (.lload_n 0, 1) := by decide +kernel
theorem dX8_in_1 : decode cX8_in 1 = .ok (.lload_n 2, 1) := by decide +kernel
theorem dX8_in_2 : decode cX8_in 2 = .ok (.lcmp, 1) := by decide +kernel
theorem dX8_in_3 : decode cX8_in 3 = .ok (.ifCond .lt 14, 3) := by decide +kernel
theorem dX8_in_6 : decode cX8_in 6 = .ok (.lload_n 0, 1) := by decide +kernel
theorem dX8_in_7 : decode cX8_in 7 = .ok (.lload 4, 2) := by decide +kernel
theorem dX8_in_9 : decode cX8_in 9 = .ok (.lcmp, 1) := by decide +kernel
theorem dX8_in_10 : decode cX8_in 10 = .ok (.ifCond .gt 7, 3) := by decide +kernel
theorem dX8_in_13 : decode cX8_in 13 = .ok (.iconst 1, 1) := by decide +kernel
theorem dX8_in_14 : decode cX8_in 14 = .ok (.goto 4, 3) := by decide +kernel
theorem dX8_in_17 : decode cX8_in 17 = .ok (.iconst 0, 1) := by decide +kernel
theorem dX8_in_18 : decode cX8_in 18 = .ok (.ireturn, 1) := by decide +kernel
theorem dX8_copy_0 : decode cX8_copy 0 = .ok (.iconst 0, 1) := by decide +kernel
theorem dX8_copy_1 : decode cX8_copy 1 = .ok (.istore 5, 2) := by decide +kernel
theorem dX8_copy_3 : decode cX8_copy 3 = .ok (.iload 5, 2) := by decide +kernel
theorem dX8_copy_5 : decode cX8_copy 5 = .ok (.iload 4, 2) := by decide +kernel
theorem dX8_copy_7 : decode cX8_copy 7 = .ok (.if_icmp .ge 21, 3) := by decide +kernel
theorem dX8_copy_10 : decode cX8_copy 10 = .ok (.aload_n 2, 1) := by decide +kernel
theorem dX8_copy_11 : decode cX8_copy 11 = .ok (.iload_n 3, 1) := by decide +kernel
theorem dX8_copy_12 : decode cX8_copy 12 = .ok (.iload 5, 2) := by decide +kernel
theorem dX8_copy_14 : decode cX8_copy 14 = .ok (.iadd, 1) := by decide +kernel
theorem dX8_copy_15 : decode cX8_copy 15 = .ok (.aload_n 0, 1) := by decide +kernel
theorem dX8_copy_16 : decode cX8_copy 16 = .ok (.iload_n 1, 1) := by decide +kernel
theorem dX8_copy_17 : decode cX8_copy 17 = .ok (.iload 5, 2) := by decide +kernel
theorem dX8_copy_19 : decode cX8_copy 19 = .ok (.iadd, 1) := by decide +kernel
theorem dX8_copy_20 : decode cX8_copy 20 = .ok (.iaload, 1) := by decide +kernel
theorem dX8_copy_21 : decode cX8_copy 21 = .ok (.iastore, 1) := by decide +kernel
theorem dX8_copy_22 : decode cX8_copy 22 = .ok (.iinc 5 1, 3) := by decide +kernel
theorem dX8_copy_25 : decode cX8_copy 25 = .ok (.goto (-22), 3) := by decide +kernel
theorem dX8_copy_28 : decode cX8_copy 28 = .ok (.return_, 1) := by decide +kernel
theorem dX8_tenTo_0 : decode cX8_tenTo 0 = .ok (.lconst 1, 1) := by decide +kernel
theorem dX8_tenTo_1 : decode cX8_tenTo 1 = .ok (.lstore_n 1, 1) := by decide +kernel
theorem dX8_tenTo_2 : decode cX8_tenTo 2 = .ok (.iconst 0, 1) := by decide +kernel
theorem dX8_tenTo_3 : decode cX8_tenTo 3 = .ok (.istore_n 3, 1) := by decide +kernel
theorem dX8_tenTo_4 : decode cX8_tenTo 4 = .ok (.iload_n 3, 1) := by decide +kernel
theorem dX8_tenTo_5 : decode cX8_tenTo 5 = .ok (.iload_n 0, 1) := by decide +kernel
theorem dX8_tenTo_6 : decode cX8_tenTo 6 = .ok (.if_icmp .ge 15, 3) := by decide +kernel
theorem dX8_tenTo_9 : decode cX8_tenTo 9 = .ok (.lload_n 1, 1) := by decide +kernel
theorem dX8_tenTo_10 : decode cX8_tenTo 10 = .ok (.ldc2_w 64, 3) := by decide +kernel
theorem dX8_tenTo_13 : decode cX8_tenTo 13 = .ok (.lmul, 1) := by decide +kernel
theorem dX8_tenTo_14 : decode cX8_tenTo 14 = .ok (.lstore_n 1, 1) := by decide +kernel
theorem dX8_tenTo_15 : decode cX8_tenTo 15 = .ok (.iinc 3 1, 3) := by decide +kernel
theorem dX8_tenTo_18 : decode cX8_tenTo 18 = .ok (.goto (-14), 3) := by decide +kernel
theorem dX8_tenTo_21 : decode cX8_tenTo 21 = .ok (.lload_n 1, 1) := by decide +kernel
theorem dX8_tenTo_22 : decode cX8_tenTo 22 = .ok (.lreturn, 1) := by decide +kernel
theorem dX8_remember_0 : decode cX8_remember 0 = .ok (.aload_n 0, 1) := by decide +kernel
theorem dX8_remember_1 : decode cX8_remember 1 = .ok (.getfield 66, 3) := by decide +kernel
theorem dX8_remember_4 : decode cX8_remember 4 = .ok (.bipush 14, 2) := by decide +kernel
theorem dX8_remember_6 : decode cX8_remember 6 = .ok (.if_icmp .ne 30, 3) := by decide +kernel
theorem dX8_remember_9 : decode cX8_remember 9 = .ok (.aload_n 0, 1) := by decide +kernel
theorem dX8_remember_10 : decode cX8_remember 10 = .ok (.getfield 22, 3) := by decide +kernel
theorem dX8_remember_13 : decode cX8_remember 13 = .ok (.bipush 96, 2) := by decide +kernel
theorem dX8_remember_15 : decode cX8_remember 15 = .ok (.aload_n 0, 1) := by decide +kernel
theorem dX8_remember_16 : decode cX8_remember 16 = .ok (.getfield 22, 3) := by decide +kernel
theorem dX8_remember_19 : decode cX8_remember 19 = .ok (.iconst 0, 1) := by decide +kernel
theorem dX8_remember_20 : decode cX8_remember 20 = .ok (.sipush 1248, 3) := by decide +kernel
theorem dX8_remember_23 : decode cX8_remember 23 = .ok (.invokestatic 69, 3) := by decide +kernel
theorem dX8_remember_26 : decode cX8_remember 26 = .ok (.aload_n 0, 1) := by decide +kernel
theorem dX8_remember_27 : decode cX8_remember 27 = .ok (.dup, 1) := by decide +kernel
theorem dX8_remember_28 : decode cX8_remember 28 = .ok (.getfield 66, 3) := by decide +kernel
theorem dX8_remember_31 : decode cX8_remember 31 = .ok (.iconst 1, 1) := by decide +kernel
theorem dX8_remember_32 : decode cX8_remember 32 = .ok (.isub, 1) := by decide +kernel
theorem dX8_remember_33 : decode cX8_remember 33 = .ok (.putfield 66, 3) := by decide +kernel
theorem dX8_remember_36 : decode cX8_remember 36 = .ok (.aload_n 0, 1) := by decide +kernel
theorem dX8_remember_37 : decode cX8_remember 37 = .ok (.getfield 16, 3) := by decide +kernel
theorem dX8_remember_40 : decode cX8_remember 40 = .ok (.iconst 0, 1) := by decide +kernel
theorem dX8_remember_41 : decode cX8_remember 41 = .ok (.aload_n 0, 1) := by decide +kernel
theorem dX8_remember_42 : decode cX8_remember 42 = .ok (.getfield 22, 3) := by decide +kernel
theorem dX8_remember_45 : decode cX8_remember 45 = .ok (.bipush 96, 2) := by decide +kernel
theorem dX8_remember_47 : decode cX8_remember 47 = .ok (.aload_n 0, 1) := by decide +kernel
theorem dX8_remember_48 : decode cX8_remember 48 = .ok (.getfield 66, 3) := by decide +kernel
theorem dX8_remember_51 : decode cX8_remember 51 = .ok (.imul, 1) := by decide +kernel
theorem dX8_remember_52 : decode cX8_remember 52 = .ok (.bipush 96, 2) := by decide +kernel
theorem dX8_remember_54 : decode cX8_remember 54 = .ok (.invokestatic 69, 3) := by decide +kernel
theorem dX8_remember_57 : decode cX8_remember 57 = .ok (.aload_n 0, 1) := by decide +kernel
theorem dX8_remember_58 : decode cX8_remember 58 = .ok (.dup, 1) := by decide +kernel
theorem dX8_remember_59 : decode cX8_remember 59 = .ok (.getfield 66, 3) := by decide +kernel
theorem dX8_remember_62 : decode cX8_remember 62 = .ok (.iconst 1, 1) := by decide +kernel
theorem dX8_remember_63 : decode cX8_remember 63 = .ok (.iadd, 1) := by decide +kernel
theorem dX8_remember_64 : decode cX8_remember 64 = .ok (.putfield 66, 3) := by decide +kernel
theorem dX8_remember_67 : decode cX8_remember 67 = .ok (.return_, 1) := by decide +kernel
theorem dX8_tryIt_0 : decode cX8_tryIt 0 = .ok (.aload_n 0, 1) := by decide +kernel
theorem dX8_tryIt_1 : decode cX8_tryIt 1 = .ok (.getfield 16, 3) := by decide +kernel
theorem dX8_tryIt_4 : decode cX8_tryIt 4 = .ok (.iconst 0, 1) := by decide +kernel
theorem dX8_tryIt_5 : decode cX8_tryIt 5 = .ok (.aload_n 0, 1) := by decide +kernel
theorem dX8_tryIt_6 : decode cX8_tryIt 6 = .ok (.getfield 19, 3) := by decide +kernel
theorem dX8_tryIt_9 : decode cX8_tryIt 9 = .ok (.iconst 0, 1) := by decide +kernel
theorem dX8_tryIt_10 : decode cX8_tryIt 10 = .ok (.bipush 96, 2) := by decide +kernel
theorem dX8_tryIt_12 : decode cX8_tryIt 12 = .ok (.invokestatic 69, 3) := by decide +kernel
theorem dX8_tryIt_15 : decode cX8_tryIt 15 = .ok (.return_, 1) := by decide +kernel
theorem dX8_moduleAt_0 : decode cX8_moduleAt 0 = .ok (.iconst 2, 1) := by decide +kernel
theorem dX8_moduleAt_1 : decode cX8_moduleAt 1 = .ok (.iconst 3, 1) := by decide +kernel
theorem dX8_moduleAt_2 : decode cX8_moduleAt 2 = .ok (.iload_n 0, 1) := by decide +kernel
theorem dX8_moduleAt_3 : decode cX8_moduleAt 3 = .ok (.imul, 1) := by decide +kernel
theorem dX8_moduleAt_4 : decode cX8_moduleAt 4 = .ok (.iadd, 1) := by decide +kernel
theorem dX8_moduleAt_5 : decode cX8_moduleAt 5 = .ok (.iload_n 1, 1) := by decide +kernel
theorem dX8_moduleAt_6 : decode cX8_moduleAt 6 = .ok (.iadd, 1) := by decide +kernel
theorem dX8_moduleAt_7 : decode cX8_moduleAt 7 = .ok (.ireturn, 1) := by decide +kernel
theorem dX8_wireAt_0 : decode cX8_wireAt 0 = .ok (.bipush 26, 2) := by decide +kernel
theorem dX8_wireAt_2 : decode cX8_wireAt 2 = .ok (.iconst 5, 1) := by decide +kernel
theorem dX8_wireAt_3 : decode cX8_wireAt 3 = .ok (.iload_n 0, 1) := by decide +kernel
theorem dX8_wireAt_4 : decode cX8_wireAt 4 = .ok (.imul, 1) := by decide +kernel
theorem dX8_wireAt_5 : decode cX8_wireAt 5 = .ok (.iadd, 1) := by decide +kernel
theorem dX8_wireAt_6 : decode cX8_wireAt 6 = .ok (.iload_n 1, 1) := by decide +kernel
theorem dX8_wireAt_7 : decode cX8_wireAt 7 = .ok (.iadd, 1) := by decide +kernel
theorem dX8_wireAt_8 : decode cX8_wireAt 8 = .ok (.ireturn, 1) := by decide +kernel
theorem dX8_marks_0 : decode cX8_marks 0 = .ok (.iconst 0, 1) := by decide +kernel
theorem dX8_marks_1 : decode cX8_marks 1 = .ok (.istore_n 1, 1) := by decide +kernel
theorem dX8_marks_2 : decode cX8_marks 2 = .ok (.iconst 0, 1) := by decide +kernel
theorem dX8_marks_3 : decode cX8_marks 3 = .ok (.istore_n 2, 1) := by decide +kernel
theorem dX8_marks_4 : decode cX8_marks 4 = .ok (.iload_n 2, 1) := by decide +kernel
theorem dX8_marks_5 : decode cX8_marks 5 = .ok (.aload_n 0, 1) := by decide +kernel
theorem dX8_marks_6 : decode cX8_marks 6 = .ok (.iconst 1, 1) := by decide +kernel
theorem dX8_marks_7 : decode cX8_marks 7 = .ok (.iaload, 1) := by decide +kernel
theorem dX8_marks_8 : decode cX8_marks 8 = .ok (.if_icmp .ge 19, 3) := by decide +kernel
theorem dX8_marks_11 : decode cX8_marks 11 = .ok (.iload_n 1, 1) := by decide +kernel
theorem dX8_marks_12 : decode cX8_marks 12 = .ok (.aload_n 0, 1) := by decide +kernel
theorem dX8_marks_13 : decode cX8_marks 13 = .ok (.iload_n 2, 1) := by decide +kernel
theorem dX8_marks_14 : decode cX8_marks 14 = .ok (.iconst 4, 1) := by decide +kernel
theorem dX8_marks_15 : decode cX8_marks 15 = .ok (.invokestatic 73, 3) := by decide +kernel
theorem dX8_marks_18 : decode cX8_marks 18 = .ok (.iaload, 1) := by decide +kernel
theorem dX8_marks_19 : decode cX8_marks 19 = .ok (.iadd, 1) := by decide +kernel
theorem dX8_marks_20 : decode cX8_marks 20 = .ok (.istore_n 1, 1) := by decide +kernel
theorem dX8_marks_21 : decode cX8_marks 21 = .ok (.iinc 2 1, 3) := by decide +kernel
theorem dX8_marks_24 : decode cX8_marks 24 = .ok (.goto (-20), 3) := by decide +kernel
theorem dX8_marks_27 : decode cX8_marks 27 = .ok (.iload_n 1, 1) := by decide +kernel
theorem dX8_marks_28 : decode cX8_marks 28 = .ok (.ireturn, 1) := by decide +kernel
theorem dX8_works_0 : decode cX8_works 0 = .ok (.iconst 0, 1) := by decide +kernel
theorem dX8_works_1 : decode cX8_works 1 = .ok (.istore_n 1, 1) := by decide +kernel
theorem dX8_works_2 : decode cX8_works 2 = .ok (.iconst 0, 1) := by decide +kernel
theorem dX8_works_3 : decode cX8_works 3 = .ok (.istore_n 2, 1) := by decide +kernel
theorem dX8_works_4 : decode cX8_works 4 = .ok (.iload_n 2, 1) := by decide +kernel
theorem dX8_works_5 : decode cX8_works 5 = .ok (.aload_n 0, 1) := by decide +kernel
theorem dX8_works_6 : decode cX8_works 6 = .ok (.iconst 0, 1) := by decide +kernel
theorem dX8_works_7 : decode cX8_works 7 = .ok (.iaload, 1) := by decide +kernel
theorem dX8_works_8 : decode cX8_works 8 = .ok (.if_icmp .ge 19, 3) := by decide +kernel
theorem dX8_works_11 : decode cX8_works 11 = .ok (.iload_n 1, 1) := by decide +kernel
theorem dX8_works_12 : decode cX8_works 12 = .ok (.aload_n 0, 1) := by decide +kernel
theorem dX8_works_13 : decode cX8_works 13 = .ok (.iload_n 2, 1) := by decide +kernel
theorem dX8_works_14 : decode cX8_works 14 = .ok (.iconst 2, 1) := by decide +kernel
theorem dX8_works_15 : decode cX8_works 15 = .ok (.invokestatic 77, 3) := by decide +kernel
theorem dX8_works_18 : decode cX8_works 18 = .ok (.iaload, 1) := by decide +kernel
theorem dX8_works_19 : decode cX8_works 19 = .ok (.iadd, 1) := by decide +kernel
theorem dX8_works_20 : decode cX8_works 20 = .ok (.istore_n 1, 1) := by decide +kernel
theorem dX8_works_21 : decode cX8_works 21 = .ok (.iinc 2 1, 3) := by decide +kernel
theorem dX8_works_24 : decode cX8_works 24 = .ok (.goto (-20), 3) := by decide +kernel
theorem dX8_works_27 : decode cX8_works 27 = .ok (.iload_n 1, 1) := by decide +kernel
theorem dX8_works_28 : decode cX8_works 28 = .ok (.ireturn, 1) := by decide +kernel
theorem dX8_layWays_0 : decode cX8_layWays 0 = .ok (.iconst 0, 1) := by decide +kernel
theorem dX8_layWays_1 : decode cX8_layWays 1 = .ok (.istore_n 3, 1) := by decide +kernel
theorem dX8_layWays_2 : decode cX8_layWays 2 = .ok (.iload_n 3, 1) := by decide +kernel
theorem dX8_layWays_3 : decode cX8_layWays 3 = .ok (.bipush 64, 2) := by decide +kernel
theorem dX8_layWays_5 : decode cX8_layWays 5 = .ok (.if_icmp .ge 17, 3) := by decide +kernel
theorem dX8_layWays_8 : decode cX8_layWays 8 = .ok (.aload_n 0, 1) := by decide +kernel
theorem dX8_layWays_9 : decode cX8_layWays 9 = .ok (.getfield 54, 3) := by decide +kernel
theorem dX8_layWays_12 : decode cX8_layWays 12 = .ok (.iload_n 3, 1) := by decide +kernel
theorem dX8_layWays_13 : decode cX8_layWays 13 = .ok (.ldc 80, 2) := by decide +kernel
theorem dX8_layWays_15 : decode cX8_layWays 15 = .ok (.iastore, 1) := by decide +kernel
theorem dX8_layWays_16 : decode cX8_layWays 16 = .ok (.iinc 3 1, 3) := by decide +kernel
theorem dX8_layWays_19 : decode cX8_layWays 19 = .ok (.goto (-17), 3) := by decide +kernel
theorem dX8_layWays_22 : decode cX8_layWays 22 = .ok (.iconst 0, 1) := by decide +kernel
theorem dX8_layWays_23 : decode cX8_layWays 23 = .ok (.istore_n 3, 1) := by decide +kernel
theorem dX8_layWays_24 : decode cX8_layWays 24 = .ok (.iload_n 3, 1) := by decide +kernel
theorem dX8_layWays_25 : decode cX8_layWays 25 = .ok (.aload_n 1, 1) := by decide +kernel
theorem dX8_layWays_26 : decode cX8_layWays 26 = .ok (.iconst 1, 1) := by decide +kernel
theorem dX8_layWays_27 : decode cX8_layWays 27 = .ok (.iaload, 1) := by decide +kernel
theorem dX8_layWays_28 : decode cX8_layWays 28 = .ok (.if_icmp .ge 93, 3) := by decide +kernel
theorem dX8_layWays_31 : decode cX8_layWays 31 = .ok (.bipush 8, 2) := by decide +kernel
theorem dX8_layWays_33 : decode cX8_layWays 33 = .ok (.aload_n 1, 1) := by decide +kernel
theorem dX8_layWays_34 : decode cX8_layWays 34 = .ok (.iload_n 3, 1) := by decide +kernel
theorem dX8_layWays_35 : decode cX8_layWays 35 = .ok (.iconst 0, 1) := by decide +kernel
theorem dX8_layWays_36 : decode cX8_layWays 36 = .ok (.invokestatic 73, 3) := by decide +kernel
theorem dX8_layWays_39 : decode cX8_layWays 39 = .ok (.iaload, 1) := by decide +kernel
theorem dX8_layWays_40 : decode cX8_layWays 40 = .ok (.imul, 1) := by decide +kernel
theorem dX8_layWays_41 : decode cX8_layWays 41 = .ok (.aload_n 1, 1) := by decide +kernel
theorem dX8_layWays_42 : decode cX8_layWays 42 = .ok (.iload_n 3, 1) := by decide +kernel
theorem dX8_layWays_43 : decode cX8_layWays 43 = .ok (.iconst 1, 1) := by decide +kernel
theorem dX8_layWays_44 : decode cX8_layWays 44 = .ok (.invokestatic 73, 3) := by decide +kernel
theorem dX8_layWays_47 : decode cX8_layWays 47 = .ok (.iaload, 1) := by decide +kernel
theorem dX8_layWays_48 : decode cX8_layWays 48 = .ok (.iadd, 1) := by decide +kernel
theorem dX8_layWays_49 : decode cX8_layWays 49 = .ok (.istore 4, 2) := by decide +kernel
theorem dX8_layWays_51 : decode cX8_layWays 51 = .ok (.aload_n 1, 1) := by decide +kernel
theorem dX8_layWays_52 : decode cX8_layWays 52 = .ok (.iload_n 3, 1) := by decide +kernel
theorem dX8_layWays_53 : decode cX8_layWays 53 = .ok (.iconst 4, 1) := by decide +kernel
theorem dX8_layWays_54 : decode cX8_layWays 54 = .ok (.invokestatic 73, 3) := by decide +kernel
theorem dX8_layWays_57 : decode cX8_layWays 57 = .ok (.iaload, 1) := by decide +kernel
theorem dX8_layWays_58 : decode cX8_layWays 58 = .ok (.iload_n 2, 1) := by decide +kernel
theorem dX8_layWays_59 : decode cX8_layWays 59 = .ok (.if_icmp .gt 24, 3) := by decide +kernel
theorem dX8_layWays_62 : decode cX8_layWays 62 = .ok (.aload_n 1, 1) := by decide +kernel
theorem dX8_layWays_63 : decode cX8_layWays 63 = .ok (.iload_n 3, 1) := by decide +kernel
theorem dX8_layWays_64 : decode cX8_layWays 64 = .ok (.iconst 4, 1) := by decide +kernel
theorem dX8_layWays_65 : decode cX8_layWays 65 = .ok (.invokestatic 73, 3) := by decide +kernel
theorem dX8_layWays_68 : decode cX8_layWays 68 = .ok (.iaload, 1) := by decide +kernel
theorem dX8_layWays_69 : decode cX8_layWays 69 = .ok (.aload_n 0, 1) := by decide +kernel
theorem dX8_layWays_70 : decode cX8_layWays 70 = .ok (.getfield 54, 3) := by decide +kernel
theorem dX8_layWays_73 : decode cX8_layWays 73 = .ok (.iload 4, 2) := by decide +kernel
theorem dX8_layWays_75 : decode cX8_layWays 75 = .ok (.iaload, 1) := by decide +kernel
theorem dX8_layWays_76 : decode cX8_layWays 76 = .ok (.if_icmp .ge 7, 3) := by decide +kernel
theorem dX8_layWays_79 : decode cX8_layWays 79 = .ok (.iconst 1, 1) := by decide +kernel
theorem dX8_layWays_80 : decode cX8_layWays 80 = .ok (.goto 4, 3) := by decide +kernel
theorem dX8_layWays_83 : decode cX8_layWays 83 = .ok (.iconst 0, 1) := by decide +kernel
theorem dX8_layWays_84 : decode cX8_layWays 84 = .ok (.istore 5, 2) := by decide +kernel
theorem dX8_layWays_86 : decode cX8_layWays 86 = .ok (.aload_n 0, 1) := by decide +kernel
theorem dX8_layWays_87 : decode cX8_layWays 87 = .ok (.getfield 54, 3) := by decide +kernel
theorem dX8_layWays_90 : decode cX8_layWays 90 = .ok (.iload 4, 2) := by decide +kernel
theorem dX8_layWays_92 : decode cX8_layWays 92 = .ok (.iload 5, 2) := by decide +kernel
theorem dX8_layWays_94 : decode cX8_layWays 94 = .ok (.ifCond .eq 13, 3) := by decide +kernel
theorem dX8_layWays_97 : decode cX8_layWays 97 = .ok (.aload_n 1, 1) := by decide +kernel
theorem dX8_layWays_98 : decode cX8_layWays 98 = .ok (.iload_n 3, 1) := by decide +kernel
theorem dX8_layWays_99 : decode cX8_layWays 99 = .ok (.iconst 4, 1) := by decide +kernel
theorem dX8_layWays_100 : decode cX8_layWays 100 = .ok (.invokestatic 73, 3) := by decide +kernel
theorem dX8_layWays_103 : decode cX8_layWays 103 = .ok (.iaload, 1) := by decide +kernel
theorem dX8_layWays_104 : decode cX8_layWays 104 = .ok (.goto 10, 3) := by decide +kernel
theorem dX8_layWays_107 : decode cX8_layWays 107 = .ok (.aload_n 0, 1) := by decide +kernel
theorem dX8_layWays_108 : decode cX8_layWays 108 = .ok (.getfield 54, 3) := by decide +kernel
theorem dX8_layWays_111 : decode cX8_layWays 111 = .ok (.iload 4, 2) := by decide +kernel
theorem dX8_layWays_113 : decode cX8_layWays 113 = .ok (.iaload, 1) := by decide +kernel
theorem dX8_layWays_114 : decode cX8_layWays 114 = .ok (.iastore, 1) := by decide +kernel
theorem dX8_layWays_115 : decode cX8_layWays 115 = .ok (.iinc 3 1, 3) := by decide +kernel
theorem dX8_layWays_118 : decode cX8_layWays 118 = .ok (.goto (-94), 3) := by decide +kernel
theorem dX8_layWays_121 : decode cX8_layWays 121 = .ok (.iconst 0, 1) := by decide +kernel
theorem dX8_layWays_122 : decode cX8_layWays 122 = .ok (.istore_n 3, 1) := by decide +kernel
theorem dX8_layWays_123 : decode cX8_layWays 123 = .ok (.iload_n 3, 1) := by decide +kernel
theorem dX8_layWays_124 : decode cX8_layWays 124 = .ok (.bipush 8, 2) := by decide +kernel
theorem dX8_layWays_126 : decode cX8_layWays 126 = .ok (.if_icmp .ge 117, 3) := by decide +kernel
theorem dX8_layWays_129 : decode cX8_layWays 129 = .ok (.iconst 0, 1) := by decide +kernel
theorem dX8_layWays_130 : decode cX8_layWays 130 = .ok (.istore 4, 2) := by decide +kernel
theorem dX8_layWays_132 : decode cX8_layWays 132 = .ok (.iload 4, 2) := by decide +kernel
theorem dX8_layWays_134 : decode cX8_layWays 134 = .ok (.bipush 8, 2) := by decide +kernel
theorem dX8_layWays_136 : decode cX8_layWays 136 = .ok (.if_icmp .ge 101, 3) := by decide +kernel
theorem dX8_layWays_139 : decode cX8_layWays 139 = .ok (.iconst 0, 1) := by decide +kernel
theorem dX8_layWays_140 : decode cX8_layWays 140 = .ok (.istore 5, 2) := by decide +kernel
theorem dX8_layWays_142 : decode cX8_layWays 142 = .ok (.iload 5, 2) := by decide +kernel
theorem dX8_layWays_144 : decode cX8_layWays 144 = .ok (.bipush 8, 2) := by decide +kernel
theorem dX8_layWays_146 : decode cX8_layWays 146 = .ok (.if_icmp .ge 85, 3) := by decide +kernel
theorem dX8_layWays_149 : decode cX8_layWays 149 = .ok (.aload_n 0, 1) := by decide +kernel
theorem dX8_layWays_150 : decode cX8_layWays 150 = .ok (.getfield 54, 3) := by decide +kernel
theorem dX8_layWays_153 : decode cX8_layWays 153 = .ok (.bipush 8, 2) := by decide +kernel
theorem dX8_layWays_155 : decode cX8_layWays 155 = .ok (.iload 4, 2) := by decide +kernel
theorem dX8_layWays_157 : decode cX8_layWays 157 = .ok (.imul, 1) := by decide +kernel
theorem dX8_layWays_158 : decode cX8_layWays 158 = .ok (.iload_n 3, 1) := by decide +kernel
theorem dX8_layWays_159 : decode cX8_layWays 159 = .ok (.iadd, 1) := by decide +kernel
theorem dX8_layWays_160 : decode cX8_layWays 160 = .ok (.iaload, 1) := by decide +kernel
theorem dX8_layWays_161 : decode cX8_layWays 161 = .ok (.aload_n 0, 1) := by decide +kernel
theorem dX8_layWays_162 : decode cX8_layWays 162 = .ok (.getfield 54, 3) := by decide +kernel
theorem dX8_layWays_165 : decode cX8_layWays 165 = .ok (.bipush 8, 2) := by decide +kernel
theorem dX8_layWays_167 : decode cX8_layWays 167 = .ok (.iload_n 3, 1) := by decide +kernel
theorem dX8_layWays_168 : decode cX8_layWays 168 = .ok (.imul, 1) := by decide +kernel
theorem dX8_layWays_169 : decode cX8_layWays 169 = .ok (.iload 5, 2) := by decide +kernel
theorem dX8_layWays_171 : decode cX8_layWays 171 = .ok (.iadd, 1) := by decide +kernel
theorem dX8_layWays_172 : decode cX8_layWays 172 = .ok (.iaload, 1) := by decide +kernel
theorem dX8_layWays_173 : decode cX8_layWays 173 = .ok (.iadd, 1) := by decide +kernel
theorem dX8_layWays_174 : decode cX8_layWays 174 = .ok (.istore 6, 2) := by decide +kernel
theorem dX8_layWays_176 : decode cX8_layWays 176 = .ok (.aload_n 0, 1) := by decide +kernel
theorem dX8_layWays_177 : decode cX8_layWays 177 = .ok (.getfield 54, 3) := by decide +kernel
theorem dX8_layWays_180 : decode cX8_layWays 180 = .ok (.bipush 8, 2) := by decide +kernel
theorem dX8_layWays_182 : decode cX8_layWays 182 = .ok (.iload 4, 2) := by decide +kernel
theorem dX8_layWays_184 : decode cX8_layWays 184 = .ok (.imul, 1) := by decide +kernel
theorem dX8_layWays_185 : decode cX8_layWays 185 = .ok (.iload 5, 2) := by decide +kernel
theorem dX8_layWays_187 : decode cX8_layWays 187 = .ok (.iadd, 1) := by decide +kernel
theorem dX8_layWays_188 : decode cX8_layWays 188 = .ok (.iload 6, 2) := by decide +kernel
theorem dX8_layWays_190 : decode cX8_layWays 190 = .ok (.aload_n 0, 1) := by decide +kernel
theorem dX8_layWays_191 : decode cX8_layWays 191 = .ok (.getfield 54, 3) := by decide +kernel
theorem dX8_layWays_194 : decode cX8_layWays 194 = .ok (.bipush 8, 2) := by decide +kernel
theorem dX8_layWays_196 : decode cX8_layWays 196 = .ok (.iload 4, 2) := by decide +kernel
theorem dX8_layWays_198 : decode cX8_layWays 198 = .ok (.imul, 1) := by decide +kernel
theorem dX8_layWays_199 : decode cX8_layWays 199 = .ok (.iload 5, 2) := by decide +kernel
theorem dX8_layWays_201 : decode cX8_layWays 201 = .ok (.iadd, 1) := by decide +kernel
theorem dX8_layWays_202 : decode cX8_layWays 202 = .ok (.iaload, 1) := by decide +kernel
theorem dX8_layWays_203 : decode cX8_layWays 203 = .ok (.if_icmp .ge 8, 3) := by decide +kernel
theorem dX8_layWays_206 : decode cX8_layWays 206 = .ok (.iload 6, 2) := by decide +kernel
theorem dX8_layWays_208 : decode cX8_layWays 208 = .ok (.goto 16, 3) := by decide +kernel
theorem dX8_layWays_211 : decode cX8_layWays 211 = .ok (.aload_n 0, 1) := by decide +kernel
theorem dX8_layWays_212 : decode cX8_layWays 212 = .ok (.getfield 54, 3) := by decide +kernel
theorem dX8_layWays_215 : decode cX8_layWays 215 = .ok (.bipush 8, 2) := by decide +kernel
theorem dX8_layWays_217 : decode cX8_layWays 217 = .ok (.iload 4, 2) := by decide +kernel
theorem dX8_layWays_219 : decode cX8_layWays 219 = .ok (.imul, 1) := by decide +kernel
theorem dX8_layWays_220 : decode cX8_layWays 220 = .ok (.iload 5, 2) := by decide +kernel
theorem dX8_layWays_222 : decode cX8_layWays 222 = .ok (.iadd, 1) := by decide +kernel
theorem dX8_layWays_223 : decode cX8_layWays 223 = .ok (.iaload, 1) := by decide +kernel
theorem dX8_layWays_224 : decode cX8_layWays 224 = .ok (.iastore, 1) := by decide +kernel
theorem dX8_layWays_225 : decode cX8_layWays 225 = .ok (.iinc 5 1, 3) := by decide +kernel
theorem dX8_layWays_228 : decode cX8_layWays 228 = .ok (.goto (-86), 3) := by decide +kernel
theorem dX8_layWays_231 : decode cX8_layWays 231 = .ok (.iinc 4 1, 3) := by decide +kernel
theorem dX8_layWays_234 : decode cX8_layWays 234 = .ok (.goto (-102), 3) := by decide +kernel
theorem dX8_layWays_237 : decode cX8_layWays 237 = .ok (.iinc 3 1, 3) := by decide +kernel
theorem dX8_layWays_240 : decode cX8_layWays 240 = .ok (.goto (-117), 3) := by decide +kernel
theorem dX8_layWays_243 : decode cX8_layWays 243 = .ok (.return_, 1) := by decide +kernel
theorem dX8_isDead_0 : decode cX8_isDead 0 = .ok (.aload_n 0, 1) := by decide +kernel
theorem dX8_isDead_1 : decode cX8_isDead 1 = .ok (.aload_n 1, 1) := by decide +kernel
theorem dX8_isDead_2 : decode cX8_isDead 2 = .ok (.iconst 0, 1) := by decide +kernel
theorem dX8_isDead_3 : decode cX8_isDead 3 = .ok (.invokevirtual 81, 3) := by decide +kernel
theorem dX8_isDead_6 : decode cX8_isDead 6 = .ok (.iload_n 2, 1) := by decide +kernel
theorem dX8_isDead_7 : decode cX8_isDead 7 = .ok (.iload_n 3, 1) := by decide +kernel
theorem dX8_isDead_8 : decode cX8_isDead 8 = .ok (.if_icmp .eq 19, 3) := by decide +kernel
theorem dX8_isDead_11 : decode cX8_isDead 11 = .ok (.aload_n 0, 1) := by decide +kernel
theorem dX8_isDead_12 : decode cX8_isDead 12 = .ok (.getfield 54, 3) := by decide +kernel
theorem dX8_isDead_15 : decode cX8_isDead 15 = .ok (.bipush 8, 2) := by decide +kernel
theorem dX8_isDead_17 : decode cX8_isDead 17 = .ok (.iload_n 3, 1) := by decide +kernel
theorem dX8_isDead_18 : decode cX8_isDead 18 = .ok (.imul, 1) := by decide +kernel
theorem dX8_isDead_19 : decode cX8_isDead 19 = .ok (.iload_n 2, 1) := by decide +kernel
theorem dX8_isDead_20 : decode cX8_isDead 20 = .ok (.iadd, 1) := by decide +kernel
theorem dX8_isDead_21 : decode cX8_isDead 21 = .ok (.iaload, 1) := by decide +kernel
theorem dX8_isDead_22 : decode cX8_isDead 22 = .ok (.ldc 80, 2) := by decide +kernel
theorem dX8_isDead_24 : decode cX8_isDead 24 = .ok (.if_icmp .ge 7, 3) := by decide +kernel
theorem dX8_isDead_27 : decode cX8_isDead 27 = .ok (.iconst 1, 1) := by decide +kernel
theorem dX8_isDead_28 : decode cX8_isDead 28 = .ok (.goto 4, 3) := by decide +kernel
theorem dX8_isDead_31 : decode cX8_isDead 31 = .ok (.iconst 0, 1) := by decide +kernel
theorem dX8_isDead_32 : decode cX8_isDead 32 = .ok (.ireturn, 1) := by decide +kernel
theorem dX8_divisor_0 : decode cX8_divisor 0 = .ok (.lload_n 0, 1) := by decide +kernel
theorem dX8_divisor_1 : decode cX8_divisor 1 = .ok (.lstore 4, 2) := by decide +kernel
theorem dX8_divisor_3 : decode cX8_divisor 3 = .ok (.lload_n 2, 1) := by decide +kernel
theorem dX8_divisor_4 : decode cX8_divisor 4 = .ok (.lstore 6, 2) := by decide +kernel
theorem dX8_divisor_6 : decode cX8_divisor 6 = .ok (.lload 6, 2) := by decide +kernel
theorem dX8_divisor_8 : decode cX8_divisor 8 = .ok (.lconst 0, 1) := by decide +kernel
theorem dX8_divisor_9 : decode cX8_divisor 9 = .ok (.lcmp, 1) := by decide +kernel
theorem dX8_divisor_10 : decode cX8_divisor 10 = .ok (.ifCond .le 21, 3) := by decide +kernel
theorem dX8_divisor_13 : decode cX8_divisor 13 = .ok (.lload 4, 2) := by decide +kernel
theorem dX8_divisor_15 : decode cX8_divisor 15 = .ok (.lload 6, 2) := by decide +kernel
theorem dX8_divisor_17 : decode cX8_divisor 17 = .ok (.lrem, 1) := by decide +kernel
theorem dX8_divisor_18 : decode cX8_divisor 18 = .ok (.lstore 8, 2) := by decide +kernel
theorem dX8_divisor_20 : decode cX8_divisor 20 = .ok (.lload 6, 2) := by decide +kernel
theorem dX8_divisor_22 : decode cX8_divisor 22 = .ok (.lstore 4, 2) := by decide +kernel
theorem dX8_divisor_24 : decode cX8_divisor 24 = .ok (.lload 8, 2) := by decide +kernel
theorem dX8_divisor_26 : decode cX8_divisor 26 = .ok (.lstore 6, 2) := by decide +kernel
theorem dX8_divisor_28 : decode cX8_divisor 28 = .ok (.goto (-22), 3) := by decide +kernel
theorem dX8_divisor_31 : decode cX8_divisor 31 = .ok (.lload 4, 2) := by decide +kernel
theorem dX8_divisor_33 : decode cX8_divisor 33 = .ok (.lreturn, 1) := by decide +kernel
theorem dX8_setWorks_0 : decode cX8_setWorks 0 = .ok (.lload_n 2, 1) := by decide +kernel
theorem dX8_setWorks_1 : decode cX8_setWorks 1 = .ok (.lload 4, 2) := by decide +kernel
theorem dX8_setWorks_3 : decode cX8_setWorks 3 = .ok (.invokestatic 85, 3) := by decide +kernel
theorem dX8_setWorks_6 : decode cX8_setWorks 6 = .ok (.lstore 6, 2) := by decide +kernel
theorem dX8_setWorks_8 : decode cX8_setWorks 8 = .ok (.aload_n 0, 1) := by decide +kernel
theorem dX8_setWorks_9 : decode cX8_setWorks 9 = .ok (.getfield 38, 3) := by decide +kernel
theorem dX8_setWorks_12 : decode cX8_setWorks 12 = .ok (.iload_n 1, 1) := by decide +kernel
theorem dX8_setWorks_13 : decode cX8_setWorks 13 = .ok (.lload_n 2, 1) := by decide +kernel
theorem dX8_setWorks_14 : decode cX8_setWorks 14 = .ok (.lload 6, 2) := by decide +kernel
theorem dX8_setWorks_16 : decode cX8_setWorks 16 = .ok (.ldiv, 1) := by decide +kernel
theorem dX8_setWorks_17 : decode cX8_setWorks 17 = .ok (.lastore, 1) := by decide +kernel
theorem dX8_setWorks_18 : decode cX8_setWorks 18 = .ok (.aload_n 0, 1) := by decide +kernel
theorem dX8_setWorks_19 : decode cX8_setWorks 19 = .ok (.getfield 42, 3) := by decide +kernel
theorem dX8_setWorks_22 : decode cX8_setWorks 22 = .ok (.iload_n 1, 1) := by decide +kernel
theorem dX8_setWorks_23 : decode cX8_setWorks 23 = .ok (.lload 4, 2) := by decide +kernel
theorem dX8_setWorks_25 : decode cX8_setWorks 25 = .ok (.lload 6, 2) := by decide +kernel
theorem dX8_setWorks_27 : decode cX8_setWorks 27 = .ok (.ldiv, 1) := by decide +kernel
theorem dX8_setWorks_28 : decode cX8_setWorks 28 = .ok (.lastore, 1) := by decide +kernel
theorem dX8_setWorks_29 : decode cX8_setWorks 29 = .ok (.return_, 1) := by decide +kernel
theorem dX8_spread_0 : decode cX8_spread 0 = .ok (.aload_n 1, 1) := by decide +kernel
theorem dX8_spread_1 : decode cX8_spread 1 = .ok (.iload_n 2, 1) := by decide +kernel
theorem dX8_spread_2 : decode cX8_spread 2 = .ok (.iconst 0, 1) := by decide +kernel
theorem dX8_spread_3 : decode cX8_spread 3 = .ok (.invokestatic 73, 3) := by decide +kernel
theorem dX8_spread_6 : decode cX8_spread 6 = .ok (.iaload, 1) := by decide +kernel
theorem dX8_spread_7 : decode cX8_spread 7 = .ok (.istore 4, 2) := by decide +kernel
theorem dX8_spread_9 : decode cX8_spread 9 = .ok (.aload_n 1, 1) := by decide +kernel
theorem dX8_spread_10 : decode cX8_spread 10 = .ok (.iload_n 2, 1) := by decide +kernel
theorem dX8_spread_11 : decode cX8_spread 11 = .ok (.iconst 1, 1) := by decide +kernel
theorem dX8_spread_12 : decode cX8_spread 12 = .ok (.invokestatic 73, 3) := by decide +kernel
theorem dX8_spread_15 : decode cX8_spread 15 = .ok (.iaload, 1) := by decide +kernel
theorem dX8_spread_16 : decode cX8_spread 16 = .ok (.istore 5, 2) := by decide +kernel
theorem dX8_spread_18 : decode cX8_spread 18 = .ok (.aload_n 0, 1) := by decide +kernel
theorem dX8_spread_19 : decode cX8_spread 19 = .ok (.getfield 35, 3) := by decide +kernel
theorem dX8_spread_22 : decode cX8_spread 22 = .ok (.iload 4, 2) := by decide +kernel
theorem dX8_spread_24 : decode cX8_spread 24 = .ok (.iaload, 1) := by decide +kernel
theorem dX8_spread_25 : decode cX8_spread 25 = .ok (.iload_n 3, 1) := by decide +kernel
theorem dX8_spread_26 : decode cX8_spread 26 = .ok (.if_icmp .ne 62, 3) := by decide +kernel
theorem dX8_spread_29 : decode cX8_spread 29 = .ok (.aload_n 0, 1) := by decide +kernel
theorem dX8_spread_30 : decode cX8_spread 30 = .ok (.getfield 35, 3) := by decide +kernel
theorem dX8_spread_33 : decode cX8_spread 33 = .ok (.iload 5, 2) := by decide +kernel
theorem dX8_spread_35 : decode cX8_spread 35 = .ok (.iaload, 1) := by decide +kernel
theorem dX8_spread_36 : decode cX8_spread 36 = .ok (.iconst (-1), 1) := by decide +kernel
theorem dX8_spread_37 : decode cX8_spread 37 = .ok (.if_icmp .ne 51, 3) := by decide +kernel
theorem dX8_spread_40 : decode cX8_spread 40 = .ok (.aload_n 0, 1) := by decide +kernel
theorem dX8_spread_41 : decode cX8_spread 41 = .ok (.getfield 35, 3) := by decide +kernel
theorem dX8_spread_44 : decode cX8_spread 44 = .ok (.iload 5, 2) := by decide +kernel
theorem dX8_spread_46 : decode cX8_spread 46 = .ok (.iload_n 3, 1) := by decide +kernel
theorem dX8_spread_47 : decode cX8_spread 47 = .ok (.iastore, 1) := by decide +kernel
theorem dX8_spread_48 : decode cX8_spread 48 = .ok (.aload_n 0, 1) := by decide +kernel
theorem dX8_spread_49 : decode cX8_spread 49 = .ok (.iload 5, 2) := by decide +kernel
theorem dX8_spread_51 : decode cX8_spread 51 = .ok (.aload_n 0, 1) := by decide +kernel
theorem dX8_spread_52 : decode cX8_spread 52 = .ok (.getfield 38, 3) := by decide +kernel
theorem dX8_spread_55 : decode cX8_spread 55 = .ok (.iload 4, 2) := by decide +kernel
theorem dX8_spread_57 : decode cX8_spread 57 = .ok (.laload, 1) := by decide +kernel
theorem dX8_spread_58 : decode cX8_spread 58 = .ok (.aload_n 1, 1) := by decide +kernel
theorem dX8_spread_59 : decode cX8_spread 59 = .ok (.iload_n 2, 1) := by decide +kernel
theorem dX8_spread_60 : decode cX8_spread 60 = .ok (.iconst 2, 1) := by decide +kernel
theorem dX8_spread_61 : decode cX8_spread 61 = .ok (.invokestatic 73, 3) := by decide +kernel
theorem dX8_spread_64 : decode cX8_spread 64 = .ok (.iaload, 1) := by decide +kernel
theorem dX8_spread_65 : decode cX8_spread 65 = .ok (.i2l, 1) := by decide +kernel
theorem dX8_spread_66 : decode cX8_spread 66 = .ok (.lmul, 1) := by decide +kernel
theorem dX8_spread_67 : decode cX8_spread 67 = .ok (.aload_n 0, 1) := by decide +kernel
theorem dX8_spread_68 : decode cX8_spread 68 = .ok (.getfield 42, 3) := by decide +kernel
theorem dX8_spread_71 : decode cX8_spread 71 = .ok (.iload 4, 2) := by decide +kernel
theorem dX8_spread_73 : decode cX8_spread 73 = .ok (.laload, 1) := by decide +kernel
theorem dX8_spread_74 : decode cX8_spread 74 = .ok (.aload_n 1, 1) := by decide +kernel
theorem dX8_spread_75 : decode cX8_spread 75 = .ok (.iload_n 2, 1) := by decide +kernel
theorem dX8_spread_76 : decode cX8_spread 76 = .ok (.iconst 3, 1) := by decide +kernel
theorem dX8_spread_77 : decode cX8_spread 77 = .ok (.invokestatic 73, 3) := by decide +kernel
theorem dX8_spread_80 : decode cX8_spread 80 = .ok (.iaload, 1) := by decide +kernel
theorem dX8_spread_81 : decode cX8_spread 81 = .ok (.i2l, 1) := by decide +kernel
theorem dX8_spread_82 : decode cX8_spread 82 = .ok (.lmul, 1) := by decide +kernel
theorem dX8_spread_83 : decode cX8_spread 83 = .ok (.invokevirtual 89, 3) := by decide +kernel
theorem dX8_spread_86 : decode cX8_spread 86 = .ok (.iconst 1, 1) := by decide +kernel
theorem dX8_spread_87 : decode cX8_spread 87 = .ok (.ireturn, 1) := by decide +kernel
theorem dX8_spread_88 : decode cX8_spread 88 = .ok (.aload_n 0, 1) := by decide +kernel
theorem dX8_spread_89 : decode cX8_spread 89 = .ok (.getfield 35, 3) := by decide +kernel
theorem dX8_spread_92 : decode cX8_spread 92 = .ok (.iload 5, 2) := by decide +kernel
theorem dX8_spread_94 : decode cX8_spread 94 = .ok (.iaload, 1) := by decide +kernel
theorem dX8_spread_95 : decode cX8_spread 95 = .ok (.iload_n 3, 1) := by decide +kernel
theorem dX8_spread_96 : decode cX8_spread 96 = .ok (.if_icmp .ne 62, 3) := by decide +kernel
theorem dX8_spread_99 : decode cX8_spread 99 = .ok (.aload_n 0, 1) := by decide +kernel
theorem dX8_spread_100 : decode cX8_spread 100 = .ok (.getfield 35, 3) := by decide +kernel
theorem dX8_spread_103 : decode cX8_spread 103 = .ok (.iload 4, 2) := by decide +kernel
theorem dX8_spread_105 : decode cX8_spread 105 = .ok (.iaload, 1) := by decide +kernel
theorem dX8_spread_106 : decode cX8_spread 106 = .ok (.iconst (-1), 1) := by decide +kernel
theorem dX8_spread_107 : decode cX8_spread 107 = .ok (.if_icmp .ne 51, 3) := by decide +kernel
theorem dX8_spread_110 : decode cX8_spread 110 = .ok (.aload_n 0, 1) := by decide +kernel
theorem dX8_spread_111 : decode cX8_spread 111 = .ok (.getfield 35, 3) := by decide +kernel
theorem dX8_spread_114 : decode cX8_spread 114 = .ok (.iload 4, 2) := by decide +kernel
theorem dX8_spread_116 : decode cX8_spread 116 = .ok (.iload_n 3, 1) := by decide +kernel
theorem dX8_spread_117 : decode cX8_spread 117 = .ok (.iastore, 1) := by decide +kernel
theorem dX8_spread_118 : decode cX8_spread 118 = .ok (.aload_n 0, 1) := by decide +kernel
theorem dX8_spread_119 : decode cX8_spread 119 = .ok (.iload 4, 2) := by decide +kernel
theorem dX8_spread_121 : decode cX8_spread 121 = .ok (.aload_n 0, 1) := by decide +kernel
theorem dX8_spread_122 : decode cX8_spread 122 = .ok (.getfield 38, 3) := by decide +kernel
theorem dX8_spread_125 : decode cX8_spread 125 = .ok (.iload 5, 2) := by decide +kernel
theorem dX8_spread_127 : decode cX8_spread 127 = .ok (.laload, 1) := by decide +kernel
theorem dX8_spread_128 : decode cX8_spread 128 = .ok (.aload_n 1, 1) := by decide +kernel
theorem dX8_spread_129 : decode cX8_spread 129 = .ok (.iload_n 2, 1) := by decide +kernel
theorem dX8_spread_130 : decode cX8_spread 130 = .ok (.iconst 3, 1) := by decide +kernel
theorem dX8_spread_131 : decode cX8_spread 131 = .ok (.invokestatic 73, 3) := by decide +kernel
theorem dX8_spread_134 : decode cX8_spread 134 = .ok (.iaload, 1) := by decide +kernel
theorem dX8_spread_135 : decode cX8_spread 135 = .ok (.i2l, 1) := by decide +kernel
theorem dX8_spread_136 : decode cX8_spread 136 = .ok (.lmul, 1) := by decide +kernel
theorem dX8_spread_137 : decode cX8_spread 137 = .ok (.aload_n 0, 1) := by decide +kernel
theorem dX8_spread_138 : decode cX8_spread 138 = .ok (.getfield 42, 3) := by decide +kernel
theorem dX8_spread_141 : decode cX8_spread 141 = .ok (.iload 5, 2) := by decide +kernel
theorem dX8_spread_143 : decode cX8_spread 143 = .ok (.laload, 1) := by decide +kernel
theorem dX8_spread_144 : decode cX8_spread 144 = .ok (.aload_n 1, 1) := by decide +kernel
theorem dX8_spread_145 : decode cX8_spread 145 = .ok (.iload_n 2, 1) := by decide +kernel
theorem dX8_spread_146 : decode cX8_spread 146 = .ok (.iconst 2, 1) := by decide +kernel
theorem dX8_spread_147 : decode cX8_spread 147 = .ok (.invokestatic 73, 3) := by decide +kernel
theorem dX8_spread_150 : decode cX8_spread 150 = .ok (.iaload, 1) := by decide +kernel
theorem dX8_spread_151 : decode cX8_spread 151 = .ok (.i2l, 1) := by decide +kernel
theorem dX8_spread_152 : decode cX8_spread 152 = .ok (.lmul, 1) := by decide +kernel
theorem dX8_spread_153 : decode cX8_spread 153 = .ok (.invokevirtual 89, 3) := by decide +kernel
theorem dX8_spread_156 : decode cX8_spread 156 = .ok (.iconst 1, 1) := by decide +kernel
theorem dX8_spread_157 : decode cX8_spread 157 = .ok (.ireturn, 1) := by decide +kernel
theorem dX8_spread_158 : decode cX8_spread 158 = .ok (.iconst 0, 1) := by decide +kernel
theorem dX8_spread_159 : decode cX8_spread 159 = .ok (.ireturn, 1) := by decide +kernel
theorem dX8_layParts_0 : decode cX8_layParts 0 = .ok (.aload_n 0, 1) := by decide +kernel
theorem dX8_layParts_1 : decode cX8_layParts 1 = .ok (.iconst 0, 1) := by decide +kernel
theorem dX8_layParts_2 : decode cX8_layParts 2 = .ok (.putfield 93, 3) := by decide +kernel
theorem dX8_layParts_5 : decode cX8_layParts 5 = .ok (.iconst 0, 1) := by decide +kernel
theorem dX8_layParts_6 : decode cX8_layParts 6 = .ok (.istore_n 2, 1) := by decide +kernel
theorem dX8_layParts_7 : decode cX8_layParts 7 = .ok (.iload_n 2, 1) := by decide +kernel
theorem dX8_layParts_8 : decode cX8_layParts 8 = .ok (.bipush 8, 2) := by decide +kernel
theorem dX8_layParts_10 : decode cX8_layParts 10 = .ok (.if_icmp .ge 16, 3) := by decide +kernel
theorem dX8_layParts_13 : decode cX8_layParts 13 = .ok (.aload_n 0, 1) := by decide +kernel
theorem dX8_layParts_14 : decode cX8_layParts 14 = .ok (.getfield 35, 3) := by decide +kernel
theorem dX8_layParts_17 : decode cX8_layParts 17 = .ok (.iload_n 2, 1) := by decide +kernel
theorem dX8_layParts_18 : decode cX8_layParts 18 = .ok (.iconst (-1), 1) := by decide +kernel
theorem dX8_layParts_19 : decode cX8_layParts 19 = .ok (.iastore, 1) := by decide +kernel
theorem dX8_layParts_20 : decode cX8_layParts 20 = .ok (.iinc 2 1, 3) := by decide +kernel
theorem dX8_layParts_23 : decode cX8_layParts 23 = .ok (.goto (-16), 3) := by decide +kernel
theorem dX8_layParts_26 : decode cX8_layParts 26 = .ok (.iconst 0, 1) := by decide +kernel
theorem dX8_layParts_27 : decode cX8_layParts 27 = .ok (.istore_n 2, 1) := by decide +kernel
theorem dX8_layParts_28 : decode cX8_layParts 28 = .ok (.iload_n 2, 1) := by decide +kernel
theorem dX8_layParts_29 : decode cX8_layParts 29 = .ok (.aload_n 1, 1) := by decide +kernel
theorem dX8_layParts_30 : decode cX8_layParts 30 = .ok (.iconst 0, 1) := by decide +kernel
theorem dX8_layParts_31 : decode cX8_layParts 31 = .ok (.iaload, 1) := by decide +kernel
theorem dX8_layParts_32 : decode cX8_layParts 32 = .ok (.if_icmp .ge 105, 3) := by decide +kernel
theorem dX8_layParts_35 : decode cX8_layParts 35 = .ok (.aload_n 0, 1) := by decide +kernel
theorem dX8_layParts_36 : decode cX8_layParts 36 = .ok (.getfield 35, 3) := by decide +kernel
theorem dX8_layParts_39 : decode cX8_layParts 39 = .ok (.iload_n 2, 1) := by decide +kernel
theorem dX8_layParts_40 : decode cX8_layParts 40 = .ok (.iaload, 1) := by decide +kernel
theorem dX8_layParts_41 : decode cX8_layParts 41 = .ok (.iconst (-1), 1) := by decide +kernel
theorem dX8_layParts_42 : decode cX8_layParts 42 = .ok (.if_icmp .ne 89, 3) := by decide +kernel
theorem dX8_layParts_45 : decode cX8_layParts 45 = .ok (.aload_n 0, 1) := by decide +kernel
theorem dX8_layParts_46 : decode cX8_layParts 46 = .ok (.getfield 35, 3) := by decide +kernel
theorem dX8_layParts_49 : decode cX8_layParts 49 = .ok (.iload_n 2, 1) := by decide +kernel
theorem dX8_layParts_50 : decode cX8_layParts 50 = .ok (.aload_n 0, 1) := by decide +kernel
theorem dX8_layParts_51 : decode cX8_layParts 51 = .ok (.getfield 93, 3) := by decide +kernel
theorem dX8_layParts_54 : decode cX8_layParts 54 = .ok (.iastore, 1) := by decide +kernel
theorem dX8_layParts_55 : decode cX8_layParts 55 = .ok (.aload_n 0, 1) := by decide +kernel
theorem dX8_layParts_56 : decode cX8_layParts 56 = .ok (.getfield 38, 3) := by decide +kernel
theorem dX8_layParts_59 : decode cX8_layParts 59 = .ok (.iload_n 2, 1) := by decide +kernel
theorem dX8_layParts_60 : decode cX8_layParts 60 = .ok (.lconst 1, 1) := by decide +kernel
theorem dX8_layParts_61 : decode cX8_layParts 61 = .ok (.lastore, 1) := by decide +kernel
theorem dX8_layParts_62 : decode cX8_layParts 62 = .ok (.aload_n 0, 1) := by decide +kernel
theorem dX8_layParts_63 : decode cX8_layParts 63 = .ok (.getfield 42, 3) := by decide +kernel
theorem dX8_layParts_66 : decode cX8_layParts 66 = .ok (.iload_n 2, 1) := by decide +kernel
theorem dX8_layParts_67 : decode cX8_layParts 67 = .ok (.lconst 1, 1) := by decide +kernel
theorem dX8_layParts_68 : decode cX8_layParts 68 = .ok (.lastore, 1) := by decide +kernel
theorem dX8_layParts_69 : decode cX8_layParts 69 = .ok (.iconst 1, 1) := by decide +kernel
theorem dX8_layParts_70 : decode cX8_layParts 70 = .ok (.istore_n 3, 1) := by decide +kernel
theorem dX8_layParts_71 : decode cX8_layParts 71 = .ok (.iload_n 3, 1) := by decide +kernel
theorem dX8_layParts_72 : decode cX8_layParts 72 = .ok (.ifCond .eq 49, 3) := by decide +kernel
theorem dX8_layParts_75 : decode cX8_layParts 75 = .ok (.iconst 0, 1) := by decide +kernel
theorem dX8_layParts_76 : decode cX8_layParts 76 = .ok (.istore_n 3, 1) := by decide +kernel
theorem dX8_layParts_77 : decode cX8_layParts 77 = .ok (.iconst 0, 1) := by decide +kernel
theorem dX8_layParts_78 : decode cX8_layParts 78 = .ok (.istore 4, 2) := by decide +kernel
theorem dX8_layParts_80 : decode cX8_layParts 80 = .ok (.iload 4, 2) := by decide +kernel
theorem dX8_layParts_82 : decode cX8_layParts 82 = .ok (.aload_n 1, 1) := by decide +kernel
theorem dX8_layParts_83 : decode cX8_layParts 83 = .ok (.iconst 1, 1) := by decide +kernel
theorem dX8_layParts_84 : decode cX8_layParts 84 = .ok (.iaload, 1) := by decide +kernel
theorem dX8_layParts_85 : decode cX8_layParts 85 = .ok (.if_icmp .ge 33, 3) := by decide +kernel
theorem dX8_layParts_88 : decode cX8_layParts 88 = .ok (.aload_n 0, 1) := by decide +kernel
theorem dX8_layParts_89 : decode cX8_layParts 89 = .ok (.aload_n 1, 1) := by decide +kernel
theorem dX8_layParts_90 : decode cX8_layParts 90 = .ok (.iload 4, 2) := by decide +kernel
theorem dX8_layParts_92 : decode cX8_layParts 92 = .ok (.aload_n 0, 1) := by decide +kernel
theorem dX8_layParts_93 : decode cX8_layParts 93 = .ok (.getfield 93, 3) := by decide +kernel
theorem dX8_layParts_96 : decode cX8_layParts 96 = .ok (.invokevirtual 96, 3) := by decide +kernel
theorem dX8_layParts_99 : decode cX8_layParts 99 = .ok (.ifCond .ne 7, 3) := by decide +kernel
theorem dX8_layParts_102 : decode cX8_layParts 102 = .ok (.iload_n 3, 1) := by decide +kernel
theorem dX8_layParts_103 : decode cX8_layParts 103 = .ok (.ifCond .eq 7, 3) := by decide +kernel
theorem dX8_layParts_106 : decode cX8_layParts 106 = .ok (.iconst 1, 1) := by decide +kernel
theorem dX8_layParts_107 : decode cX8_layParts 107 = .ok (.goto 4, 3) := by decide +kernel
theorem dX8_layParts_110 : decode cX8_layParts 110 = .ok (.iconst 0, 1) := by decide +kernel
theorem dX8_layParts_111 : decode cX8_layParts 111 = .ok (.istore_n 3, 1) := by decide +kernel
theorem dX8_layParts_112 : decode cX8_layParts 112 = .ok (.iinc 4 1, 3) := by decide +kernel
theorem dX8_layParts_115 : decode cX8_layParts 115 = .ok (.goto (-35), 3) := by decide +kernel
theorem dX8_layParts_118 : decode cX8_layParts 118 = .ok (.goto (-47), 3) := by decide +kernel
theorem dX8_layParts_121 : decode cX8_layParts 121 = .ok (.aload_n 0, 1) := by decide +kernel
theorem dX8_layParts_122 : decode cX8_layParts 122 = .ok (.dup, 1) := by decide +kernel
theorem dX8_layParts_123 : decode cX8_layParts 123 = .ok (.getfield 93, 3) := by decide +kernel
theorem dX8_layParts_126 : decode cX8_layParts 126 = .ok (.iconst 1, 1) := by decide +kernel
theorem dX8_layParts_127 : decode cX8_layParts 127 = .ok (.iadd, 1) := by decide +kernel
theorem dX8_layParts_128 : decode cX8_layParts 128 = .ok (.putfield 93, 3) := by decide +kernel
theorem dX8_layParts_131 : decode cX8_layParts 131 = .ok (.iinc 2 1, 3) := by decide +kernel
theorem dX8_layParts_134 : decode cX8_layParts 134 = .ok (.goto (-106), 3) := by decide +kernel
theorem dX8_layParts_137 : decode cX8_layParts 137 = .ok (.return_, 1) := by decide +kernel
theorem dX8_layWorks_0 : decode cX8_layWorks 0 = .ok (.aload_n 0, 1) := by decide +kernel
theorem dX8_layWorks_1 : decode cX8_layWorks 1 = .ok (.aload_n 1, 1) := by decide +kernel
theorem dX8_layWorks_2 : decode cX8_layWorks 2 = .ok (.invokevirtual 100, 3) := by decide +kernel
theorem dX8_layWorks_5 : decode cX8_layWorks 5 = .ok (.iconst 0, 1) := by decide +kernel
theorem dX8_layWorks_6 : decode cX8_layWorks 6 = .ok (.istore_n 2, 1) := by decide +kernel
theorem dX8_layWorks_7 : decode cX8_layWorks 7 = .ok (.iload_n 2, 1) := by decide +kernel
theorem dX8_layWorks_8 : decode cX8_layWorks 8 = .ok (.aload_n 1, 1) := by decide +kernel
theorem dX8_layWorks_9 : decode cX8_layWorks 9 = .ok (.iconst 1, 1) := by decide +kernel
theorem dX8_layWorks_10 : decode cX8_layWorks 10 = .ok (.iaload, 1) := by decide +kernel
theorem dX8_layWorks_11 : decode cX8_layWorks 11 = .ok (.if_icmp .ge 78, 3) := by decide +kernel
theorem dX8_layWorks_14 : decode cX8_layWorks 14 = .ok (.aload_n 1, 1) := by decide +kernel
theorem dX8_layWorks_15 : decode cX8_layWorks 15 = .ok (.iload_n 2, 1) := by decide +kernel
theorem dX8_layWorks_16 : decode cX8_layWorks 16 = .ok (.iconst 0, 1) := by decide +kernel
theorem dX8_layWorks_17 : decode cX8_layWorks 17 = .ok (.invokestatic 73, 3) := by decide +kernel
theorem dX8_layWorks_20 : decode cX8_layWorks 20 = .ok (.iaload, 1) := by decide +kernel
theorem dX8_layWorks_21 : decode cX8_layWorks 21 = .ok (.istore_n 3, 1) := by decide +kernel
theorem dX8_layWorks_22 : decode cX8_layWorks 22 = .ok (.aload_n 1, 1) := by decide +kernel
theorem dX8_layWorks_23 : decode cX8_layWorks 23 = .ok (.iload_n 2, 1) := by decide +kernel
theorem dX8_layWorks_24 : decode cX8_layWorks 24 = .ok (.iconst 1, 1) := by decide +kernel
theorem dX8_layWorks_25 : decode cX8_layWorks 25 = .ok (.invokestatic 73, 3) := by decide +kernel
theorem dX8_layWorks_28 : decode cX8_layWorks 28 = .ok (.iaload, 1) := by decide +kernel
theorem dX8_layWorks_29 : decode cX8_layWorks 29 = .ok (.istore 4, 2) := by decide +kernel
theorem dX8_layWorks_31 : decode cX8_layWorks 31 = .ok (.aload_n 0, 1) := by decide +kernel
theorem dX8_layWorks_32 : decode cX8_layWorks 32 = .ok (.getfield 38, 3) := by decide +kernel
theorem dX8_layWorks_35 : decode cX8_layWorks 35 = .ok (.iload_n 3, 1) := by decide +kernel
theorem dX8_layWorks_36 : decode cX8_layWorks 36 = .ok (.laload, 1) := by decide +kernel
theorem dX8_layWorks_37 : decode cX8_layWorks 37 = .ok (.aload_n 1, 1) := by decide +kernel
theorem dX8_layWorks_38 : decode cX8_layWorks 38 = .ok (.iload_n 2, 1) := by decide +kernel
theorem dX8_layWorks_39 : decode cX8_layWorks 39 = .ok (.iconst 2, 1) := by decide +kernel
theorem dX8_layWorks_40 : decode cX8_layWorks 40 = .ok (.invokestatic 73, 3) := by decide +kernel
theorem dX8_layWorks_43 : decode cX8_layWorks 43 = .ok (.iaload, 1) := by decide +kernel
theorem dX8_layWorks_44 : decode cX8_layWorks 44 = .ok (.i2l, 1) := by decide +kernel
theorem dX8_layWorks_45 : decode cX8_layWorks 45 = .ok (.lmul, 1) := by decide +kernel
theorem dX8_layWorks_46 : decode cX8_layWorks 46 = .ok (.aload_n 0, 1) := by decide +kernel
theorem dX8_layWorks_47 : decode cX8_layWorks 47 = .ok (.getfield 42, 3) := by decide +kernel
theorem dX8_layWorks_50 : decode cX8_layWorks 50 = .ok (.iload 4, 2) := by decide +kernel
theorem dX8_layWorks_52 : decode cX8_layWorks 52 = .ok (.laload, 1) := by decide +kernel
theorem dX8_layWorks_53 : decode cX8_layWorks 53 = .ok (.lmul, 1) := by decide +kernel
theorem dX8_layWorks_54 : decode cX8_layWorks 54 = .ok (.aload_n 0, 1) := by decide +kernel
theorem dX8_layWorks_55 : decode cX8_layWorks 55 = .ok (.getfield 38, 3) := by decide +kernel
theorem dX8_layWorks_58 : decode cX8_layWorks 58 = .ok (.iload 4, 2) := by decide +kernel
theorem dX8_layWorks_60 : decode cX8_layWorks 60 = .ok (.laload, 1) := by decide +kernel
theorem dX8_layWorks_61 : decode cX8_layWorks 61 = .ok (.aload_n 1, 1) := by decide +kernel
theorem dX8_layWorks_62 : decode cX8_layWorks 62 = .ok (.iload_n 2, 1) := by decide +kernel
theorem dX8_layWorks_63 : decode cX8_layWorks 63 = .ok (.iconst 3, 1) := by decide +kernel
theorem dX8_layWorks_64 : decode cX8_layWorks 64 = .ok (.invokestatic 73, 3) := by decide +kernel
theorem dX8_layWorks_67 : decode cX8_layWorks 67 = .ok (.iaload, 1) := by decide +kernel
theorem dX8_layWorks_68 : decode cX8_layWorks 68 = .ok (.i2l, 1) := by decide +kernel
theorem dX8_layWorks_69 : decode cX8_layWorks 69 = .ok (.lmul, 1) := by decide +kernel
theorem dX8_layWorks_70 : decode cX8_layWorks 70 = .ok (.aload_n 0, 1) := by decide +kernel
theorem dX8_layWorks_71 : decode cX8_layWorks 71 = .ok (.getfield 42, 3) := by decide +kernel
theorem dX8_layWorks_74 : decode cX8_layWorks 74 = .ok (.iload_n 3, 1) := by decide +kernel
theorem dX8_layWorks_75 : decode cX8_layWorks 75 = .ok (.laload, 1) := by decide +kernel
theorem dX8_layWorks_76 : decode cX8_layWorks 76 = .ok (.lmul, 1) := by decide +kernel
theorem dX8_layWorks_77 : decode cX8_layWorks 77 = .ok (.lcmp, 1) := by decide +kernel
theorem dX8_layWorks_78 : decode cX8_layWorks 78 = .ok (.ifCond .eq 5, 3) := by decide +kernel
theorem dX8_layWorks_81 : decode cX8_layWorks 81 = .ok (.iconst 0, 1) := by decide +kernel
theorem dX8_layWorks_82 : decode cX8_layWorks 82 = .ok (.ireturn, 1) := by decide +kernel
theorem dX8_layWorks_83 : decode cX8_layWorks 83 = .ok (.iinc 2 1, 3) := by decide +kernel
theorem dX8_layWorks_86 : decode cX8_layWorks 86 = .ok (.goto (-79), 3) := by decide +kernel
theorem dX8_layWorks_89 : decode cX8_layWorks 89 = .ok (.iconst 1, 1) := by decide +kernel
theorem dX8_layWorks_90 : decode cX8_layWorks 90 = .ok (.istore_n 2, 1) := by decide +kernel
theorem dX8_layWorks_91 : decode cX8_layWorks 91 = .ok (.iconst 0, 1) := by decide +kernel
theorem dX8_layWorks_92 : decode cX8_layWorks 92 = .ok (.istore_n 3, 1) := by decide +kernel
theorem dX8_layWorks_93 : decode cX8_layWorks 93 = .ok (.iload_n 3, 1) := by decide +kernel
theorem dX8_layWorks_94 : decode cX8_layWorks 94 = .ok (.aload_n 0, 1) := by decide +kernel
theorem dX8_layWorks_95 : decode cX8_layWorks 95 = .ok (.getfield 93, 3) := by decide +kernel
theorem dX8_layWorks_98 : decode cX8_layWorks 98 = .ok (.if_icmp .ge 224, 3) := by decide +kernel
theorem dX8_layWorks_101 : decode cX8_layWorks 101 = .ok (.lconst 1, 1) := by decide +kernel
theorem dX8_layWorks_102 : decode cX8_layWorks 102 = .ok (.lstore 4, 2) := by decide +kernel
theorem dX8_layWorks_104 : decode cX8_layWorks 104 = .ok (.lconst 0, 1) := by decide +kernel
theorem dX8_layWorks_105 : decode cX8_layWorks 105 = .ok (.lstore 6, 2) := by decide +kernel
theorem dX8_layWorks_107 : decode cX8_layWorks 107 = .ok (.iconst 0, 1) := by decide +kernel
theorem dX8_layWorks_108 : decode cX8_layWorks 108 = .ok (.istore 8, 2) := by decide +kernel
theorem dX8_layWorks_110 : decode cX8_layWorks 110 = .ok (.iload 8, 2) := by decide +kernel
theorem dX8_layWorks_112 : decode cX8_layWorks 112 = .ok (.aload_n 1, 1) := by decide +kernel
theorem dX8_layWorks_113 : decode cX8_layWorks 113 = .ok (.iconst 0, 1) := by decide +kernel
theorem dX8_layWorks_114 : decode cX8_layWorks 114 = .ok (.iaload, 1) := by decide +kernel
theorem dX8_layWorks_115 : decode cX8_layWorks 115 = .ok (.if_icmp .ge 50, 3) := by decide +kernel
theorem dX8_layWorks_118 : decode cX8_layWorks 118 = .ok (.aload_n 0, 1) := by decide +kernel
theorem dX8_layWorks_119 : decode cX8_layWorks 119 = .ok (.getfield 35, 3) := by decide +kernel
theorem dX8_layWorks_122 : decode cX8_layWorks 122 = .ok (.iload 8, 2) := by decide +kernel
theorem dX8_layWorks_124 : decode cX8_layWorks 124 = .ok (.iaload, 1) := by decide +kernel
theorem dX8_layWorks_125 : decode cX8_layWorks 125 = .ok (.iload_n 3, 1) := by decide +kernel
theorem dX8_layWorks_126 : decode cX8_layWorks 126 = .ok (.if_icmp .ne 29, 3) := by decide +kernel
theorem dX8_layWorks_129 : decode cX8_layWorks 129 = .ok (.lload 4, 2) := by decide +kernel
theorem dX8_layWorks_131 : decode cX8_layWorks 131 = .ok (.lload 4, 2) := by decide +kernel
theorem dX8_layWorks_133 : decode cX8_layWorks 133 = .ok (.aload_n 0, 1) := by decide +kernel
theorem dX8_layWorks_134 : decode cX8_layWorks 134 = .ok (.getfield 42, 3) := by decide +kernel
theorem dX8_layWorks_137 : decode cX8_layWorks 137 = .ok (.iload 8, 2) := by decide +kernel
theorem dX8_layWorks_139 : decode cX8_layWorks 139 = .ok (.laload, 1) := by decide +kernel
theorem dX8_layWorks_140 : decode cX8_layWorks 140 = .ok (.invokestatic 85, 3) := by decide +kernel
theorem dX8_layWorks_143 : decode cX8_layWorks 143 = .ok (.ldiv, 1) := by decide +kernel
theorem dX8_layWorks_144 : decode cX8_layWorks 144 = .ok (.aload_n 0, 1) := by decide +kernel
theorem dX8_layWorks_145 : decode cX8_layWorks 145 = .ok (.getfield 42, 3) := by decide +kernel
theorem dX8_layWorks_148 : decode cX8_layWorks 148 = .ok (.iload 8, 2) := by decide +kernel
theorem dX8_layWorks_150 : decode cX8_layWorks 150 = .ok (.laload, 1) := by decide +kernel
theorem dX8_layWorks_151 : decode cX8_layWorks 151 = .ok (.lmul, 1) := by decide +kernel
theorem dX8_layWorks_152 : decode cX8_layWorks 152 = .ok (.goto 5, 3) := by decide +kernel
theorem dX8_layWorks_155 : decode cX8_layWorks 155 = .ok (.lload 4, 2) := by decide +kernel
theorem dX8_layWorks_157 : decode cX8_layWorks 157 = .ok (.lstore 4, 2) := by decide +kernel
theorem dX8_layWorks_159 : decode cX8_layWorks 159 = .ok (.iinc 8 1, 3) := by decide +kernel
theorem dX8_layWorks_162 : decode cX8_layWorks 162 = .ok (.goto (-52), 3) := by decide +kernel
theorem dX8_layWorks_165 : decode cX8_layWorks 165 = .ok (.iconst 0, 1) := by decide +kernel
theorem dX8_layWorks_166 : decode cX8_layWorks 166 = .ok (.istore 8, 2) := by decide +kernel
theorem dX8_layWorks_168 : decode cX8_layWorks 168 = .ok (.iload 8, 2) := by decide +kernel
theorem dX8_layWorks_170 : decode cX8_layWorks 170 = .ok (.aload_n 1, 1) := by decide +kernel
theorem dX8_layWorks_171 : decode cX8_layWorks 171 = .ok (.iconst 0, 1) := by decide +kernel
theorem dX8_layWorks_172 : decode cX8_layWorks 172 = .ok (.iaload, 1) := by decide +kernel
theorem dX8_layWorks_173 : decode cX8_layWorks 173 = .ok (.if_icmp .ge 50, 3) := by decide +kernel
theorem dX8_layWorks_176 : decode cX8_layWorks 176 = .ok (.aload_n 0, 1) := by decide +kernel
theorem dX8_layWorks_177 : decode cX8_layWorks 177 = .ok (.getfield 35, 3) := by decide +kernel
theorem dX8_layWorks_180 : decode cX8_layWorks 180 = .ok (.iload 8, 2) := by decide +kernel
theorem dX8_layWorks_182 : decode cX8_layWorks 182 = .ok (.iaload, 1) := by decide +kernel
theorem dX8_layWorks_183 : decode cX8_layWorks 183 = .ok (.iload_n 3, 1) := by decide +kernel
theorem dX8_layWorks_184 : decode cX8_layWorks 184 = .ok (.if_icmp .ne 29, 3) := by decide +kernel
theorem dX8_layWorks_187 : decode cX8_layWorks 187 = .ok (.aload_n 0, 1) := by decide +kernel
theorem dX8_layWorks_188 : decode cX8_layWorks 188 = .ok (.getfield 38, 3) := by decide +kernel
theorem dX8_layWorks_191 : decode cX8_layWorks 191 = .ok (.iload 8, 2) := by decide +kernel
theorem dX8_layWorks_193 : decode cX8_layWorks 193 = .ok (.laload, 1) := by decide +kernel
theorem dX8_layWorks_194 : decode cX8_layWorks 194 = .ok (.lload 4, 2) := by decide +kernel
theorem dX8_layWorks_196 : decode cX8_layWorks 196 = .ok (.aload_n 0, 1) := by decide +kernel
theorem dX8_layWorks_197 : decode cX8_layWorks 197 = .ok (.getfield 42, 3) := by decide +kernel
theorem dX8_layWorks_200 : decode cX8_layWorks 200 = .ok (.iload 8, 2) := by decide +kernel
theorem dX8_layWorks_202 : decode cX8_layWorks 202 = .ok (.laload, 1) := by decide +kernel
theorem dX8_layWorks_203 : decode cX8_layWorks 203 = .ok (.ldiv, 1) := by decide +kernel
theorem dX8_layWorks_204 : decode cX8_layWorks 204 = .ok (.lmul, 1) := by decide +kernel
theorem dX8_layWorks_205 : decode cX8_layWorks 205 = .ok (.lload 6, 2) := by decide +kernel
theorem dX8_layWorks_207 : decode cX8_layWorks 207 = .ok (.invokestatic 85, 3) := by decide +kernel
theorem dX8_layWorks_210 : decode cX8_layWorks 210 = .ok (.goto 5, 3) := by decide +kernel
theorem dX8_layWorks_213 : decode cX8_layWorks 213 = .ok (.lload 6, 2) := by decide +kernel
theorem dX8_layWorks_215 : decode cX8_layWorks 215 = .ok (.lstore 6, 2) := by decide +kernel
theorem dX8_layWorks_217 : decode cX8_layWorks 217 = .ok (.iinc 8 1, 3) := by decide +kernel
theorem dX8_layWorks_220 : decode cX8_layWorks 220 = .ok (.goto (-52), 3) := by decide +kernel
theorem dX8_layWorks_223 : decode cX8_layWorks 223 = .ok (.iconst 0, 1) := by decide +kernel
theorem dX8_layWorks_224 : decode cX8_layWorks 224 = .ok (.istore 8, 2) := by decide +kernel
theorem dX8_layWorks_226 : decode cX8_layWorks 226 = .ok (.iload 8, 2) := by decide +kernel
theorem dX8_layWorks_228 : decode cX8_layWorks 228 = .ok (.aload_n 1, 1) := by decide +kernel
theorem dX8_layWorks_229 : decode cX8_layWorks 229 = .ok (.iconst 0, 1) := by decide +kernel
theorem dX8_layWorks_230 : decode cX8_layWorks 230 = .ok (.iaload, 1) := by decide +kernel
theorem dX8_layWorks_231 : decode cX8_layWorks 231 = .ok (.if_icmp .ge 85, 3) := by decide +kernel
theorem dX8_layWorks_234 : decode cX8_layWorks 234 = .ok (.aload_n 0, 1) := by decide +kernel
theorem dX8_layWorks_235 : decode cX8_layWorks 235 = .ok (.getfield 35, 3) := by decide +kernel
theorem dX8_layWorks_238 : decode cX8_layWorks 238 = .ok (.iload 8, 2) := by decide +kernel
theorem dX8_layWorks_240 : decode cX8_layWorks 240 = .ok (.iaload, 1) := by decide +kernel
theorem dX8_layWorks_241 : decode cX8_layWorks 241 = .ok (.iload_n 3, 1) := by decide +kernel
theorem dX8_layWorks_242 : decode cX8_layWorks 242 = .ok (.if_icmp .ne 68, 3) := by decide +kernel
theorem dX8_layWorks_245 : decode cX8_layWorks 245 = .ok (.aload_n 0, 1) := by decide +kernel
theorem dX8_layWorks_246 : decode cX8_layWorks 246 = .ok (.getfield 38, 3) := by decide +kernel
theorem dX8_layWorks_249 : decode cX8_layWorks 249 = .ok (.iload 8, 2) := by decide +kernel
theorem dX8_layWorks_251 : decode cX8_layWorks 251 = .ok (.laload, 1) := by decide +kernel
theorem dX8_layWorks_252 : decode cX8_layWorks 252 = .ok (.lload 4, 2) := by decide +kernel
theorem dX8_layWorks_254 : decode cX8_layWorks 254 = .ok (.aload_n 0, 1) := by decide +kernel
theorem dX8_layWorks_255 : decode cX8_layWorks 255 = .ok (.getfield 42, 3) := by decide +kernel
theorem dX8_layWorks_258 : decode cX8_layWorks 258 = .ok (.iload 8, 2) := by decide +kernel
theorem dX8_layWorks_260 : decode cX8_layWorks 260 = .ok (.laload, 1) := by decide +kernel
theorem dX8_layWorks_261 : decode cX8_layWorks 261 = .ok (.ldiv, 1) := by decide +kernel
theorem dX8_layWorks_262 : decode cX8_layWorks 262 = .ok (.lmul, 1) := by decide +kernel
theorem dX8_layWorks_263 : decode cX8_layWorks 263 = .ok (.lload 6, 2) := by decide +kernel
theorem dX8_layWorks_265 : decode cX8_layWorks 265 = .ok (.ldiv, 1) := by decide +kernel
theorem dX8_layWorks_266 : decode cX8_layWorks 266 = .ok (.lstore 9, 2) := by decide +kernel
theorem dX8_layWorks_268 : decode cX8_layWorks 268 = .ok (.iload_n 2, 1) := by decide +kernel
theorem dX8_layWorks_269 : decode cX8_layWorks 269 = .ok (.ifCond .eq 16, 3) := by decide +kernel
theorem dX8_layWorks_272 : decode cX8_layWorks 272 = .ok (.lload 9, 2) := by decide +kernel
theorem dX8_layWorks_274 : decode cX8_layWorks 274 = .ok (.ldc2_w 104, 3) := by decide +kernel
theorem dX8_layWorks_277 : decode cX8_layWorks 277 = .ok (.lcmp, 1) := by decide +kernel
theorem dX8_layWorks_278 : decode cX8_layWorks 278 = .ok (.ifCond .gt 7, 3) := by decide +kernel
theorem dX8_layWorks_281 : decode cX8_layWorks 281 = .ok (.iconst 1, 1) := by decide +kernel
theorem dX8_layWorks_282 : decode cX8_layWorks 282 = .ok (.goto 4, 3) := by decide +kernel
theorem dX8_layWorks_285 : decode cX8_layWorks 285 = .ok (.iconst 0, 1) := by decide +kernel
theorem dX8_layWorks_286 : decode cX8_layWorks 286 = .ok (.istore_n 2, 1) := by decide +kernel
theorem dX8_layWorks_287 : decode cX8_layWorks 287 = .ok (.aload_n 0, 1) := by decide +kernel
theorem dX8_layWorks_288 : decode cX8_layWorks 288 = .ok (.getfield 32, 3) := by decide +kernel
theorem dX8_layWorks_291 : decode cX8_layWorks 291 = .ok (.iload 8, 2) := by decide +kernel
theorem dX8_layWorks_293 : decode cX8_layWorks 293 = .ok (.lload 9, 2) := by decide +kernel
theorem dX8_layWorks_295 : decode cX8_layWorks 295 = .ok (.ldc2_w 104, 3) := by decide +kernel
theorem dX8_layWorks_298 : decode cX8_layWorks 298 = .ok (.lcmp, 1) := by decide +kernel
theorem dX8_layWorks_299 : decode cX8_layWorks 299 = .ok (.ifCond .gt 9, 3) := by decide +kernel
theorem dX8_layWorks_302 : decode cX8_layWorks 302 = .ok (.lload 9, 2) := by decide +kernel
theorem dX8_layWorks_304 : decode cX8_layWorks 304 = .ok (.l2i, 1) := by decide +kernel
theorem dX8_layWorks_305 : decode cX8_layWorks 305 = .ok (.goto 4, 3) := by decide +kernel
theorem dX8_layWorks_308 : decode cX8_layWorks 308 = .ok (.iconst 0, 1) := by decide +kernel
theorem dX8_layWorks_309 : decode cX8_layWorks 309 = .ok (.iastore, 1) := by decide +kernel
theorem dX8_layWorks_310 : decode cX8_layWorks 310 = .ok (.iinc 8 1, 3) := by decide +kernel
theorem dX8_layWorks_313 : decode cX8_layWorks 313 = .ok (.goto (-87), 3) := by decide +kernel
theorem dX8_layWorks_316 : decode cX8_layWorks 316 = .ok (.iinc 3 1, 3) := by decide +kernel
theorem dX8_layWorks_319 : decode cX8_layWorks 319 = .ok (.goto (-226), 3) := by decide +kernel
theorem dX8_layWorks_322 : decode cX8_layWorks 322 = .ok (.iload_n 2, 1) := by decide +kernel
theorem dX8_layWorks_323 : decode cX8_layWorks 323 = .ok (.ireturn, 1) := by decide +kernel
theorem dX8_dueTogether_0 : decode cX8_dueTogether 0 = .ok (.iconst 0, 1) := by decide +kernel
theorem dX8_dueTogether_1 : decode cX8_dueTogether 1 = .ok (.istore_n 1, 1) := by decide +kernel
theorem dX8_dueTogether_2 : decode cX8_dueTogether 2 = .ok (.iconst 0, 1) := by decide +kernel
theorem dX8_dueTogether_3 : decode cX8_dueTogether 3 = .ok (.istore_n 2, 1) := by decide +kernel
theorem dX8_dueTogether_4 : decode cX8_dueTogether 4 = .ok (.iload_n 2, 1) := by decide +kernel
theorem dX8_dueTogether_5 : decode cX8_dueTogether 5 = .ok (.aload_n 0, 1) := by decide +kernel
theorem dX8_dueTogether_6 : decode cX8_dueTogether 6 = .ok (.getfield 16, 3) := by decide +kernel
theorem dX8_dueTogether_9 : decode cX8_dueTogether 9 = .ok (.iconst 0, 1) := by decide +kernel
theorem dX8_dueTogether_10 : decode cX8_dueTogether 10 = .ok (.iaload, 1) := by decide +kernel
theorem dX8_dueTogether_11 : decode cX8_dueTogether 11 = .ok (.if_icmp .ge 18, 3) := by decide +kernel
theorem dX8_dueTogether_14 : decode cX8_dueTogether 14 = .ok (.iload_n 1, 1) := by decide +kernel
theorem dX8_dueTogether_15 : decode cX8_dueTogether 15 = .ok (.aload_n 0, 1) := by decide +kernel
theorem dX8_dueTogether_16 : decode cX8_dueTogether 16 = .ok (.getfield 32, 3) := by decide +kernel
theorem dX8_dueTogether_19 : decode cX8_dueTogether 19 = .ok (.iload_n 2, 1) := by decide +kernel
theorem dX8_dueTogether_20 : decode cX8_dueTogether 20 = .ok (.iaload, 1) := by decide +kernel
theorem dX8_dueTogether_21 : decode cX8_dueTogether 21 = .ok (.iadd, 1) := by decide +kernel
theorem dX8_dueTogether_22 : decode cX8_dueTogether 22 = .ok (.istore_n 1, 1) := by decide +kernel
theorem dX8_dueTogether_23 : decode cX8_dueTogether 23 = .ok (.iinc 2 1, 3) := by decide +kernel
theorem dX8_dueTogether_26 : decode cX8_dueTogether 26 = .ok (.goto (-22), 3) := by decide +kernel
theorem dX8_dueTogether_29 : decode cX8_dueTogether 29 = .ok (.iload_n 1, 1) := by decide +kernel
theorem dX8_dueTogether_30 : decode cX8_dueTogether 30 = .ok (.ireturn, 1) := by decide +kernel
theorem dX8_canWork_0 : decode cX8_canWork 0 = .ok (.iconst 1, 1) := by decide +kernel
theorem dX8_canWork_1 : decode cX8_canWork 1 = .ok (.istore_n 2, 1) := by decide +kernel
theorem dX8_canWork_2 : decode cX8_canWork 2 = .ok (.iconst 0, 1) := by decide +kernel
theorem dX8_canWork_3 : decode cX8_canWork 3 = .ok (.istore_n 3, 1) := by decide +kernel
theorem dX8_canWork_4 : decode cX8_canWork 4 = .ok (.iload_n 3, 1) := by decide +kernel
theorem dX8_canWork_5 : decode cX8_canWork 5 = .ok (.aload_n 0, 1) := by decide +kernel
theorem dX8_canWork_6 : decode cX8_canWork 6 = .ok (.iconst 1, 1) := by decide +kernel
theorem dX8_canWork_7 : decode cX8_canWork 7 = .ok (.iaload, 1) := by decide +kernel
theorem dX8_canWork_8 : decode cX8_canWork 8 = .ok (.if_icmp .ge 121, 3) := by decide +kernel
theorem dX8_canWork_11 : decode cX8_canWork 11 = .ok (.aload_n 0, 1) := by decide +kernel
theorem dX8_canWork_12 : decode cX8_canWork 12 = .ok (.iload_n 3, 1) := by decide +kernel
theorem dX8_canWork_13 : decode cX8_canWork 13 = .ok (.iconst 4, 1) := by decide +kernel
theorem dX8_canWork_14 : decode cX8_canWork 14 = .ok (.invokestatic 73, 3) := by decide +kernel
theorem dX8_canWork_17 : decode cX8_canWork 17 = .ok (.iaload, 1) := by decide +kernel
theorem dX8_canWork_18 : decode cX8_canWork 18 = .ok (.istore 4, 2) := by decide +kernel
theorem dX8_canWork_20 : decode cX8_canWork 20 = .ok (.aload_n 0, 1) := by decide +kernel
theorem dX8_canWork_21 : decode cX8_canWork 21 = .ok (.iload_n 3, 1) := by decide +kernel
theorem dX8_canWork_22 : decode cX8_canWork 22 = .ok (.iconst 1, 1) := by decide +kernel
theorem dX8_canWork_23 : decode cX8_canWork 23 = .ok (.invokestatic 73, 3) := by decide +kernel
theorem dX8_canWork_26 : decode cX8_canWork 26 = .ok (.iaload, 1) := by decide +kernel
theorem dX8_canWork_27 : decode cX8_canWork 27 = .ok (.iload_n 1, 1) := by decide +kernel
theorem dX8_canWork_28 : decode cX8_canWork 28 = .ok (.if_icmp .ne 7, 3) := by decide +kernel
theorem dX8_canWork_31 : decode cX8_canWork 31 = .ok (.iconst 1, 1) := by decide +kernel
theorem dX8_canWork_32 : decode cX8_canWork 32 = .ok (.goto 4, 3) := by decide +kernel
theorem dX8_canWork_35 : decode cX8_canWork 35 = .ok (.iconst 0, 1) := by decide +kernel
theorem dX8_canWork_36 : decode cX8_canWork 36 = .ok (.istore 5, 2) := by decide +kernel
theorem dX8_canWork_38 : decode cX8_canWork 38 = .ok (.iload_n 2, 1) := by decide +kernel
theorem dX8_canWork_39 : decode cX8_canWork 39 = .ok (.ifCond .eq 24, 3) := by decide +kernel
theorem dX8_canWork_42 : decode cX8_canWork 42 = .ok (.iload 5, 2) := by decide +kernel
theorem dX8_canWork_44 : decode cX8_canWork 44 = .ok (.ifCond .eq 15, 3) := by decide +kernel
theorem dX8_canWork_47 : decode cX8_canWork 47 = .ok (.iload 4, 2) := by decide +kernel
theorem dX8_canWork_49 : decode cX8_canWork 49 = .ok (.aload_n 0, 1) := by decide +kernel
theorem dX8_canWork_50 : decode cX8_canWork 50 = .ok (.iload_n 3, 1) := by decide +kernel
theorem dX8_canWork_51 : decode cX8_canWork 51 = .ok (.iconst 3, 1) := by decide +kernel
theorem dX8_canWork_52 : decode cX8_canWork 52 = .ok (.invokestatic 73, 3) := by decide +kernel
theorem dX8_canWork_55 : decode cX8_canWork 55 = .ok (.iaload, 1) := by decide +kernel
theorem dX8_canWork_56 : decode cX8_canWork 56 = .ok (.if_icmp .lt 7, 3) := by decide +kernel
theorem dX8_canWork_59 : decode cX8_canWork 59 = .ok (.iconst 1, 1) := by decide +kernel
theorem dX8_canWork_60 : decode cX8_canWork 60 = .ok (.goto 4, 3) := by decide +kernel
theorem dX8_canWork_63 : decode cX8_canWork 63 = .ok (.iconst 0, 1) := by decide +kernel
theorem dX8_canWork_64 : decode cX8_canWork 64 = .ok (.istore_n 2, 1) := by decide +kernel
theorem dX8_canWork_65 : decode cX8_canWork 65 = .ok (.iload 4, 2) := by decide +kernel
theorem dX8_canWork_67 : decode cX8_canWork 67 = .ok (.iload 5, 2) := by decide +kernel
theorem dX8_canWork_69 : decode cX8_canWork 69 = .ok (.ifCond .eq 13, 3) := by decide +kernel
theorem dX8_canWork_72 : decode cX8_canWork 72 = .ok (.aload_n 0, 1) := by decide +kernel
theorem dX8_canWork_73 : decode cX8_canWork 73 = .ok (.iload_n 3, 1) := by decide +kernel
theorem dX8_canWork_74 : decode cX8_canWork 74 = .ok (.iconst 3, 1) := by decide +kernel
theorem dX8_canWork_75 : decode cX8_canWork 75 = .ok (.invokestatic 73, 3) := by decide +kernel
theorem dX8_canWork_78 : decode cX8_canWork 78 = .ok (.iaload, 1) := by decide +kernel
theorem dX8_canWork_79 : decode cX8_canWork 79 = .ok (.goto 4, 3) := by decide +kernel
theorem dX8_canWork_82 : decode cX8_canWork 82 = .ok (.iconst 0, 1) := by decide +kernel
theorem dX8_canWork_83 : decode cX8_canWork 83 = .ok (.isub, 1) := by decide +kernel
theorem dX8_canWork_84 : decode cX8_canWork 84 = .ok (.aload_n 0, 1) := by decide +kernel
theorem dX8_canWork_85 : decode cX8_canWork 85 = .ok (.iload_n 3, 1) := by decide +kernel
theorem dX8_canWork_86 : decode cX8_canWork 86 = .ok (.iconst 2, 1) := by decide +kernel
theorem dX8_canWork_87 : decode cX8_canWork 87 = .ok (.invokestatic 73, 3) := by decide +kernel
theorem dX8_canWork_90 : decode cX8_canWork 90 = .ok (.iaload, 1) := by decide +kernel
theorem dX8_canWork_91 : decode cX8_canWork 91 = .ok (.iadd, 1) := by decide +kernel
theorem dX8_canWork_92 : decode cX8_canWork 92 = .ok (.istore 6, 2) := by decide +kernel
theorem dX8_canWork_94 : decode cX8_canWork 94 = .ok (.iload_n 2, 1) := by decide +kernel
theorem dX8_canWork_95 : decode cX8_canWork 95 = .ok (.ifCond .eq 26, 3) := by decide +kernel
theorem dX8_canWork_98 : decode cX8_canWork 98 = .ok (.aload_n 0, 1) := by decide +kernel
theorem dX8_canWork_99 : decode cX8_canWork 99 = .ok (.iload_n 3, 1) := by decide +kernel
theorem dX8_canWork_100 : decode cX8_canWork 100 = .ok (.iconst 0, 1) := by decide +kernel
theorem dX8_canWork_101 : decode cX8_canWork 101 = .ok (.invokestatic 73, 3) := by decide +kernel
theorem dX8_canWork_104 : decode cX8_canWork 104 = .ok (.iaload, 1) := by decide +kernel
theorem dX8_canWork_105 : decode cX8_canWork 105 = .ok (.iload_n 1, 1) := by decide +kernel
theorem dX8_canWork_106 : decode cX8_canWork 106 = .ok (.if_icmp .ne 11, 3) := by decide +kernel
theorem dX8_canWork_109 : decode cX8_canWork 109 = .ok (.iload 6, 2) := by decide +kernel
theorem dX8_canWork_111 : decode cX8_canWork 111 = .ok (.sipush 999, 3) := by decide +kernel
theorem dX8_canWork_114 : decode cX8_canWork 114 = .ok (.if_icmp .gt 7, 3) := by decide +kernel
theorem dX8_canWork_117 : decode cX8_canWork 117 = .ok (.iconst 1, 1) := by decide +kernel
theorem dX8_canWork_118 : decode cX8_canWork 118 = .ok (.goto 4, 3) := by decide +kernel
theorem dX8_canWork_121 : decode cX8_canWork 121 = .ok (.iconst 0, 1) := by decide +kernel
theorem dX8_canWork_122 : decode cX8_canWork 122 = .ok (.istore_n 2, 1) := by decide +kernel
theorem dX8_canWork_123 : decode cX8_canWork 123 = .ok (.iinc 3 1, 3) := by decide +kernel
theorem dX8_canWork_126 : decode cX8_canWork 126 = .ok (.goto (-122), 3) := by decide +kernel
theorem dX8_canWork_129 : decode cX8_canWork 129 = .ok (.iload_n 2, 1) := by decide +kernel
theorem dX8_canWork_130 : decode cX8_canWork 130 = .ok (.ireturn, 1) := by decide +kernel
theorem dX8_workIn_0 : decode cX8_workIn 0 = .ok (.iconst 0, 1) := by decide +kernel
theorem dX8_workIn_1 : decode cX8_workIn 1 = .ok (.istore_n 2, 1) := by decide +kernel
theorem dX8_workIn_2 : decode cX8_workIn 2 = .ok (.iload_n 2, 1) := by decide +kernel
theorem dX8_workIn_3 : decode cX8_workIn 3 = .ok (.aload_n 0, 1) := by decide +kernel
theorem dX8_workIn_4 : decode cX8_workIn 4 = .ok (.iconst 1, 1) := by decide +kernel
theorem dX8_workIn_5 : decode cX8_workIn 5 = .ok (.iaload, 1) := by decide +kernel
theorem dX8_workIn_6 : decode cX8_workIn 6 = .ok (.if_icmp .ge 73, 3) := by decide +kernel
theorem dX8_workIn_9 : decode cX8_workIn 9 = .ok (.aload_n 0, 1) := by decide +kernel
theorem dX8_workIn_10 : decode cX8_workIn 10 = .ok (.iload_n 2, 1) := by decide +kernel
theorem dX8_workIn_11 : decode cX8_workIn 11 = .ok (.iconst 4, 1) := by decide +kernel
theorem dX8_workIn_12 : decode cX8_workIn 12 = .ok (.invokestatic 73, 3) := by decide +kernel
theorem dX8_workIn_15 : decode cX8_workIn 15 = .ok (.dup2, 1) := by decide +kernel
theorem dX8_workIn_16 : decode cX8_workIn 16 = .ok (.iaload, 1) := by decide +kernel
theorem dX8_workIn_17 : decode cX8_workIn 17 = .ok (.aload_n 0, 1) := by decide +kernel
theorem dX8_workIn_18 : decode cX8_workIn 18 = .ok (.iload_n 2, 1) := by decide +kernel
theorem dX8_workIn_19 : decode cX8_workIn 19 = .ok (.iconst 1, 1) := by decide +kernel
theorem dX8_workIn_20 : decode cX8_workIn 20 = .ok (.invokestatic 73, 3) := by decide +kernel
theorem dX8_workIn_23 : decode cX8_workIn 23 = .ok (.iaload, 1) := by decide +kernel
theorem dX8_workIn_24 : decode cX8_workIn 24 = .ok (.iload_n 1, 1) := by decide +kernel
theorem dX8_workIn_25 : decode cX8_workIn 25 = .ok (.if_icmp .ne 13, 3) := by decide +kernel
theorem dX8_workIn_28 : decode cX8_workIn 28 = .ok (.aload_n 0, 1) := by decide +kernel
theorem dX8_workIn_29 : decode cX8_workIn 29 = .ok (.iload_n 2, 1) := by decide +kernel
theorem dX8_workIn_30 : decode cX8_workIn 30 = .ok (.iconst 3, 1) := by decide +kernel
theorem dX8_workIn_31 : decode cX8_workIn 31 = .ok (.invokestatic 73, 3) := by decide +kernel
theorem dX8_workIn_34 : decode cX8_workIn 34 = .ok (.iaload, 1) := by decide +kernel
theorem dX8_workIn_35 : decode cX8_workIn 35 = .ok (.goto 4, 3) := by decide +kernel
theorem dX8_workIn_38 : decode cX8_workIn 38 = .ok (.iconst 0, 1) := by decide +kernel
theorem dX8_workIn_39 : decode cX8_workIn 39 = .ok (.isub, 1) := by decide +kernel
theorem dX8_workIn_40 : decode cX8_workIn 40 = .ok (.iastore, 1) := by decide +kernel
theorem dX8_workIn_41 : decode cX8_workIn 41 = .ok (.aload_n 0, 1) := by decide +kernel
theorem dX8_workIn_42 : decode cX8_workIn 42 = .ok (.iload_n 2, 1) := by decide +kernel
theorem dX8_workIn_43 : decode cX8_workIn 43 = .ok (.iconst 4, 1) := by decide +kernel
theorem dX8_workIn_44 : decode cX8_workIn 44 = .ok (.invokestatic 73, 3) := by decide +kernel
theorem dX8_workIn_47 : decode cX8_workIn 47 = .ok (.dup2, 1) := by decide +kernel
theorem dX8_workIn_48 : decode cX8_workIn 48 = .ok (.iaload, 1) := by decide +kernel
theorem dX8_workIn_49 : decode cX8_workIn 49 = .ok (.aload_n 0, 1) := by decide +kernel
theorem dX8_workIn_50 : decode cX8_workIn 50 = .ok (.iload_n 2, 1) := by decide +kernel
theorem dX8_workIn_51 : decode cX8_workIn 51 = .ok (.iconst 0, 1) := by decide +kernel
theorem dX8_workIn_52 : decode cX8_workIn 52 = .ok (.invokestatic 73, 3) := by decide +kernel
theorem dX8_workIn_55 : decode cX8_workIn 55 = .ok (.iaload, 1) := by decide +kernel
theorem dX8_workIn_56 : decode cX8_workIn 56 = .ok (.iload_n 1, 1) := by decide +kernel
theorem dX8_workIn_57 : decode cX8_workIn 57 = .ok (.if_icmp .ne 13, 3) := by decide +kernel
theorem dX8_workIn_60 : decode cX8_workIn 60 = .ok (.aload_n 0, 1) := by decide +kernel
theorem dX8_workIn_61 : decode cX8_workIn 61 = .ok (.iload_n 2, 1) := by decide +kernel
theorem dX8_workIn_62 : decode cX8_workIn 62 = .ok (.iconst 2, 1) := by decide +kernel
theorem dX8_workIn_63 : decode cX8_workIn 63 = .ok (.invokestatic 73, 3) := by decide +kernel
theorem dX8_workIn_66 : decode cX8_workIn 66 = .ok (.iaload, 1) := by decide +kernel
theorem dX8_workIn_67 : decode cX8_workIn 67 = .ok (.goto 4, 3) := by decide +kernel
theorem dX8_workIn_70 : decode cX8_workIn 70 = .ok (.iconst 0, 1) := by decide +kernel
theorem dX8_workIn_71 : decode cX8_workIn 71 = .ok (.iadd, 1) := by decide +kernel
theorem dX8_workIn_72 : decode cX8_workIn 72 = .ok (.iastore, 1) := by decide +kernel
theorem dX8_workIn_73 : decode cX8_workIn 73 = .ok (.iinc 2 1, 3) := by decide +kernel
theorem dX8_workIn_76 : decode cX8_workIn 76 = .ok (.goto (-74), 3) := by decide +kernel
theorem dX8_workIn_79 : decode cX8_workIn 79 = .ok (.aload_n 0, 1) := by decide +kernel
theorem dX8_workIn_80 : decode cX8_workIn 80 = .ok (.iload_n 1, 1) := by decide +kernel
theorem dX8_workIn_81 : decode cX8_workIn 81 = .ok (.iconst 2, 1) := by decide +kernel
theorem dX8_workIn_82 : decode cX8_workIn 82 = .ok (.invokestatic 77, 3) := by decide +kernel
theorem dX8_workIn_85 : decode cX8_workIn 85 = .ok (.dup2, 1) := by decide +kernel
theorem dX8_workIn_86 : decode cX8_workIn 86 = .ok (.iaload, 1) := by decide +kernel
theorem dX8_workIn_87 : decode cX8_workIn 87 = .ok (.iconst 1, 1) := by decide +kernel
theorem dX8_workIn_88 : decode cX8_workIn 88 = .ok (.iadd, 1) := by decide +kernel
theorem dX8_workIn_89 : decode cX8_workIn 89 = .ok (.iastore, 1) := by decide +kernel
theorem dX8_workIn_90 : decode cX8_workIn 90 = .ok (.return_, 1) := by decide +kernel
theorem dX8_gain_0 : decode cX8_gain 0 = .ok (.iconst 0, 1) := by decide +kernel
theorem dX8_gain_1 : decode cX8_gain 1 = .ok (.istore_n 2, 1) := by decide +kernel
theorem dX8_gain_2 : decode cX8_gain 2 = .ok (.iconst 0, 1) := by decide +kernel
theorem dX8_gain_3 : decode cX8_gain 3 = .ok (.istore_n 3, 1) := by decide +kernel
theorem dX8_gain_4 : decode cX8_gain 4 = .ok (.iload_n 3, 1) := by decide +kernel
theorem dX8_gain_5 : decode cX8_gain 5 = .ok (.aload_n 0, 1) := by decide +kernel
theorem dX8_gain_6 : decode cX8_gain 6 = .ok (.iconst 1, 1) := by decide +kernel
theorem dX8_gain_7 : decode cX8_gain 7 = .ok (.iaload, 1) := by decide +kernel
theorem dX8_gain_8 : decode cX8_gain 8 = .ok (.if_icmp .ge 57, 3) := by decide +kernel
theorem dX8_gain_11 : decode cX8_gain 11 = .ok (.iload_n 2, 1) := by decide +kernel
theorem dX8_gain_12 : decode cX8_gain 12 = .ok (.aload_n 0, 1) := by decide +kernel
theorem dX8_gain_13 : decode cX8_gain 13 = .ok (.iload_n 3, 1) := by decide +kernel
theorem dX8_gain_14 : decode cX8_gain 14 = .ok (.iconst 0, 1) := by decide +kernel
theorem dX8_gain_15 : decode cX8_gain 15 = .ok (.invokestatic 73, 3) := by decide +kernel
theorem dX8_gain_18 : decode cX8_gain 18 = .ok (.iaload, 1) := by decide +kernel
theorem dX8_gain_19 : decode cX8_gain 19 = .ok (.iload_n 1, 1) := by decide +kernel
theorem dX8_gain_20 : decode cX8_gain 20 = .ok (.if_icmp .ne 13, 3) := by decide +kernel
theorem dX8_gain_23 : decode cX8_gain 23 = .ok (.aload_n 0, 1) := by decide +kernel
theorem dX8_gain_24 : decode cX8_gain 24 = .ok (.iload_n 3, 1) := by decide +kernel
theorem dX8_gain_25 : decode cX8_gain 25 = .ok (.iconst 2, 1) := by decide +kernel
theorem dX8_gain_26 : decode cX8_gain 26 = .ok (.invokestatic 73, 3) := by decide +kernel
theorem dX8_gain_29 : decode cX8_gain 29 = .ok (.iaload, 1) := by decide +kernel
theorem dX8_gain_30 : decode cX8_gain 30 = .ok (.goto 4, 3) := by decide +kernel
theorem dX8_gain_33 : decode cX8_gain 33 = .ok (.iconst 0, 1) := by decide +kernel
theorem dX8_gain_34 : decode cX8_gain 34 = .ok (.aload_n 0, 1) := by decide +kernel
theorem dX8_gain_35 : decode cX8_gain 35 = .ok (.iload_n 3, 1) := by decide +kernel
theorem dX8_gain_36 : decode cX8_gain 36 = .ok (.iconst 1, 1) := by decide +kernel
theorem dX8_gain_37 : decode cX8_gain 37 = .ok (.invokestatic 73, 3) := by decide +kernel
theorem dX8_gain_40 : decode cX8_gain 40 = .ok (.iaload, 1) := by decide +kernel
theorem dX8_gain_41 : decode cX8_gain 41 = .ok (.iload_n 1, 1) := by decide +kernel
theorem dX8_gain_42 : decode cX8_gain 42 = .ok (.if_icmp .ne 13, 3) := by decide +kernel
theorem dX8_gain_45 : decode cX8_gain 45 = .ok (.aload_n 0, 1) := by decide +kernel
theorem dX8_gain_46 : decode cX8_gain 46 = .ok (.iload_n 3, 1) := by decide +kernel
theorem dX8_gain_47 : decode cX8_gain 47 = .ok (.iconst 3, 1) := by decide +kernel
theorem dX8_gain_48 : decode cX8_gain 48 = .ok (.invokestatic 73, 3) := by decide +kernel
theorem dX8_gain_51 : decode cX8_gain 51 = .ok (.iaload, 1) := by decide +kernel
theorem dX8_gain_52 : decode cX8_gain 52 = .ok (.goto 4, 3) := by decide +kernel
theorem dX8_gain_55 : decode cX8_gain 55 = .ok (.iconst 0, 1) := by decide +kernel
theorem dX8_gain_56 : decode cX8_gain 56 = .ok (.isub, 1) := by decide +kernel
theorem dX8_gain_57 : decode cX8_gain 57 = .ok (.iadd, 1) := by decide +kernel
theorem dX8_gain_58 : decode cX8_gain 58 = .ok (.istore_n 2, 1) := by decide +kernel
theorem dX8_gain_59 : decode cX8_gain 59 = .ok (.iinc 3 1, 3) := by decide +kernel
theorem dX8_gain_62 : decode cX8_gain 62 = .ok (.goto (-58), 3) := by decide +kernel
theorem dX8_gain_65 : decode cX8_gain 65 = .ok (.iload_n 2, 1) := by decide +kernel
theorem dX8_gain_66 : decode cX8_gain 66 = .ok (.ireturn, 1) := by decide +kernel
theorem dX8_choice_0 : decode cX8_choice 0 = .ok (.iconst (-1), 1) := by decide +kernel
theorem dX8_choice_1 : decode cX8_choice 1 = .ok (.istore 4, 2) := by decide +kernel
theorem dX8_choice_3 : decode cX8_choice 3 = .ok (.aload_n 1, 1) := by decide +kernel
theorem dX8_choice_4 : decode cX8_choice 4 = .ok (.iconst 0, 1) := by decide +kernel
theorem dX8_choice_5 : decode cX8_choice 5 = .ok (.iaload, 1) := by decide +kernel
theorem dX8_choice_6 : decode cX8_choice 6 = .ok (.istore 5, 2) := by decide +kernel
theorem dX8_choice_8 : decode cX8_choice 8 = .ok (.iconst 0, 1) := by decide +kernel
theorem dX8_choice_9 : decode cX8_choice 9 = .ok (.istore 6, 2) := by decide +kernel
theorem dX8_choice_11 : decode cX8_choice 11 = .ok (.iload 6, 2) := by decide +kernel
theorem dX8_choice_13 : decode cX8_choice 13 = .ok (.iload 5, 2) := by decide +kernel
theorem dX8_choice_15 : decode cX8_choice 15 = .ok (.if_icmp .ge 115, 3) := by decide +kernel
theorem dX8_choice_18 : decode cX8_choice 18 = .ok (.iload_n 2, 1) := by decide +kernel
theorem dX8_choice_19 : decode cX8_choice 19 = .ok (.iconst 2, 1) := by decide +kernel
theorem dX8_choice_20 : decode cX8_choice 20 = .ok (.if_icmp .ne 15, 3) := by decide +kernel
theorem dX8_choice_23 : decode cX8_choice 23 = .ok (.iload_n 3, 1) := by decide +kernel
theorem dX8_choice_24 : decode cX8_choice 24 = .ok (.iconst 1, 1) := by decide +kernel
theorem dX8_choice_25 : decode cX8_choice 25 = .ok (.iadd, 1) := by decide +kernel
theorem dX8_choice_26 : decode cX8_choice 26 = .ok (.iload 6, 2) := by decide +kernel
theorem dX8_choice_28 : decode cX8_choice 28 = .ok (.iadd, 1) := by decide +kernel
theorem dX8_choice_29 : decode cX8_choice 29 = .ok (.iload 5, 2) := by decide +kernel
theorem dX8_choice_31 : decode cX8_choice 31 = .ok (.irem, 1) := by decide +kernel
theorem dX8_choice_32 : decode cX8_choice 32 = .ok (.goto 5, 3) := by decide +kernel
theorem dX8_choice_35 : decode cX8_choice 35 = .ok (.iload 6, 2) := by decide +kernel
theorem dX8_choice_37 : decode cX8_choice 37 = .ok (.istore 7, 2) := by decide +kernel
theorem dX8_choice_39 : decode cX8_choice 39 = .ok (.aload_n 0, 1) := by decide +kernel
theorem dX8_choice_40 : decode cX8_choice 40 = .ok (.getfield 45, 3) := by decide +kernel
theorem dX8_choice_43 : decode cX8_choice 43 = .ok (.iload 7, 2) := by decide +kernel
theorem dX8_choice_45 : decode cX8_choice 45 = .ok (.iaload, 1) := by decide +kernel
theorem dX8_choice_46 : decode cX8_choice 46 = .ok (.aload_n 0, 1) := by decide +kernel
theorem dX8_choice_47 : decode cX8_choice 47 = .ok (.getfield 32, 3) := by decide +kernel
theorem dX8_choice_50 : decode cX8_choice 50 = .ok (.iload 7, 2) := by decide +kernel
theorem dX8_choice_52 : decode cX8_choice 52 = .ok (.iaload, 1) := by decide +kernel
theorem dX8_choice_53 : decode cX8_choice 53 = .ok (.if_icmp .ge 16, 3) := by decide +kernel
theorem dX8_choice_56 : decode cX8_choice 56 = .ok (.aload_n 1, 1) := by decide +kernel
theorem dX8_choice_57 : decode cX8_choice 57 = .ok (.iload 7, 2) := by decide +kernel
theorem dX8_choice_59 : decode cX8_choice 59 = .ok (.invokestatic 106, 3) := by decide +kernel
theorem dX8_choice_62 : decode cX8_choice 62 = .ok (.ifCond .eq 7, 3) := by decide +kernel
theorem dX8_choice_65 : decode cX8_choice 65 = .ok (.iconst 1, 1) := by decide +kernel
theorem dX8_choice_66 : decode cX8_choice 66 = .ok (.goto 4, 3) := by decide +kernel
theorem dX8_choice_69 : decode cX8_choice 69 = .ok (.iconst 0, 1) := by decide +kernel
theorem dX8_choice_70 : decode cX8_choice 70 = .ok (.istore 8, 2) := by decide +kernel
theorem dX8_choice_72 : decode cX8_choice 72 = .ok (.iload 4, 2) := by decide +kernel
theorem dX8_choice_74 : decode cX8_choice 74 = .ok (.iconst (-1), 1) := by decide +kernel
theorem dX8_choice_75 : decode cX8_choice 75 = .ok (.if_icmp .eq 23, 3) := by decide +kernel
theorem dX8_choice_78 : decode cX8_choice 78 = .ok (.iload_n 2, 1) := by decide +kernel
theorem dX8_choice_79 : decode cX8_choice 79 = .ok (.iconst 1, 1) := by decide +kernel
theorem dX8_choice_80 : decode cX8_choice 80 = .ok (.if_icmp .ne 22, 3) := by decide +kernel
theorem dX8_choice_83 : decode cX8_choice 83 = .ok (.aload_n 1, 1) := by decide +kernel
theorem dX8_choice_84 : decode cX8_choice 84 = .ok (.iload 7, 2) := by decide +kernel
theorem dX8_choice_86 : decode cX8_choice 86 = .ok (.invokestatic 110, 3) := by decide +kernel
theorem dX8_choice_89 : decode cX8_choice 89 = .ok (.aload_n 1, 1) := by decide +kernel
theorem dX8_choice_90 : decode cX8_choice 90 = .ok (.iload 4, 2) := by decide +kernel
theorem dX8_choice_92 : decode cX8_choice 92 = .ok (.invokestatic 110, 3) := by decide +kernel
theorem dX8_choice_95 : decode cX8_choice 95 = .ok (.if_icmp .ge 7, 3) := by decide +kernel
theorem dX8_choice_98 : decode cX8_choice 98 = .ok (.iconst 1, 1) := by decide +kernel
theorem dX8_choice_99 : decode cX8_choice 99 = .ok (.goto 4, 3) := by decide +kernel
theorem dX8_choice_102 : decode cX8_choice 102 = .ok (.iconst 0, 1) := by decide +kernel
theorem dX8_choice_103 : decode cX8_choice 103 = .ok (.istore 9, 2) := by decide +kernel
theorem dX8_choice_105 : decode cX8_choice 105 = .ok (.iload 8, 2) := by decide +kernel
theorem dX8_choice_107 : decode cX8_choice 107 = .ok (.ifCond .eq 13, 3) := by decide +kernel
theorem dX8_choice_110 : decode cX8_choice 110 = .ok (.iload 9, 2) := by decide +kernel
theorem dX8_choice_112 : decode cX8_choice 112 = .ok (.ifCond .eq 8, 3) := by decide +kernel
theorem dX8_choice_115 : decode cX8_choice 115 = .ok (.iload 7, 2) := by decide +kernel
theorem dX8_choice_117 : decode cX8_choice 117 = .ok (.goto 5, 3) := by decide +kernel
theorem dX8_choice_120 : decode cX8_choice 120 = .ok (.iload 4, 2) := by decide +kernel
theorem dX8_choice_122 : decode cX8_choice 122 = .ok (.istore 4, 2) := by decide +kernel
theorem dX8_choice_124 : decode cX8_choice 124 = .ok (.iinc 6 1, 3) := by decide +kernel
theorem dX8_choice_127 : decode cX8_choice 127 = .ok (.goto (-116), 3) := by decide +kernel
theorem dX8_choice_130 : decode cX8_choice 130 = .ok (.iload 4, 2) := by decide +kernel
theorem dX8_choice_132 : decode cX8_choice 132 = .ok (.ireturn, 1) := by decide +kernel
theorem dX8_note_0 : decode cX8_note 0 = .ok (.iconst 0, 1) := by decide +kernel
theorem dX8_note_1 : decode cX8_note 1 = .ok (.istore_n 2, 1) := by decide +kernel
theorem dX8_note_2 : decode cX8_note 2 = .ok (.iload_n 2, 1) := by decide +kernel
theorem dX8_note_3 : decode cX8_note 3 = .ok (.aload_n 1, 1) := by decide +kernel
theorem dX8_note_4 : decode cX8_note 4 = .ok (.iconst 1, 1) := by decide +kernel
theorem dX8_note_5 : decode cX8_note 5 = .ok (.iaload, 1) := by decide +kernel
theorem dX8_note_6 : decode cX8_note 6 = .ok (.if_icmp .ge 47, 3) := by decide +kernel
theorem dX8_note_9 : decode cX8_note 9 = .ok (.aload_n 0, 1) := by decide +kernel
theorem dX8_note_10 : decode cX8_note 10 = .ok (.getfield 51, 3) := by decide +kernel
theorem dX8_note_13 : decode cX8_note 13 = .ok (.iload_n 2, 1) := by decide +kernel
theorem dX8_note_14 : decode cX8_note 14 = .ok (.aload_n 1, 1) := by decide +kernel
theorem dX8_note_15 : decode cX8_note 15 = .ok (.iload_n 2, 1) := by decide +kernel
theorem dX8_note_16 : decode cX8_note 16 = .ok (.iconst 4, 1) := by decide +kernel
theorem dX8_note_17 : decode cX8_note 17 = .ok (.invokestatic 73, 3) := by decide +kernel
theorem dX8_note_20 : decode cX8_note 20 = .ok (.iaload, 1) := by decide +kernel
theorem dX8_note_21 : decode cX8_note 21 = .ok (.aload_n 0, 1) := by decide +kernel
theorem dX8_note_22 : decode cX8_note 22 = .ok (.getfield 51, 3) := by decide +kernel
theorem dX8_note_25 : decode cX8_note 25 = .ok (.iload_n 2, 1) := by decide +kernel
theorem dX8_note_26 : decode cX8_note 26 = .ok (.iaload, 1) := by decide +kernel
theorem dX8_note_27 : decode cX8_note 27 = .ok (.if_icmp .le 13, 3) := by decide +kernel
theorem dX8_note_30 : decode cX8_note 30 = .ok (.aload_n 1, 1) := by decide +kernel
theorem dX8_note_31 : decode cX8_note 31 = .ok (.iload_n 2, 1) := by decide +kernel
theorem dX8_note_32 : decode cX8_note 32 = .ok (.iconst 4, 1) := by decide +kernel
theorem dX8_note_33 : decode cX8_note 33 = .ok (.invokestatic 73, 3) := by decide +kernel
theorem dX8_note_36 : decode cX8_note 36 = .ok (.iaload, 1) := by decide +kernel
theorem dX8_note_37 : decode cX8_note 37 = .ok (.goto 9, 3) := by decide +kernel
theorem dX8_note_40 : decode cX8_note 40 = .ok (.aload_n 0, 1) := by decide +kernel
theorem dX8_note_41 : decode cX8_note 41 = .ok (.getfield 51, 3) := by decide +kernel
theorem dX8_note_44 : decode cX8_note 44 = .ok (.iload_n 2, 1) := by decide +kernel
theorem dX8_note_45 : decode cX8_note 45 = .ok (.iaload, 1) := by decide +kernel
theorem dX8_note_46 : decode cX8_note 46 = .ok (.iastore, 1) := by decide +kernel
theorem dX8_note_47 : decode cX8_note 47 = .ok (.iinc 2 1, 3) := by decide +kernel
theorem dX8_note_50 : decode cX8_note 50 = .ok (.goto (-48), 3) := by decide +kernel
theorem dX8_note_53 : decode cX8_note 53 = .ok (.return_, 1) := by decide +kernel
theorem dX8_play_0 : decode cX8_play 0 = .ok (.aload_n 0, 1) := by decide +kernel
theorem dX8_play_1 : decode cX8_play 1 = .ok (.iconst 0, 1) := by decide +kernel
theorem dX8_play_2 : decode cX8_play 2 = .ok (.putfield 114, 3) := by decide +kernel
theorem dX8_play_5 : decode cX8_play 5 = .ok (.iconst 0, 1) := by decide +kernel
theorem dX8_play_6 : decode cX8_play 6 = .ok (.istore_n 3, 1) := by decide +kernel
theorem dX8_play_7 : decode cX8_play 7 = .ok (.iload_n 3, 1) := by decide +kernel
theorem dX8_play_8 : decode cX8_play 8 = .ok (.bipush 14, 2) := by decide +kernel
theorem dX8_play_10 : decode cX8_play 10 = .ok (.if_icmp .ge 16, 3) := by decide +kernel
theorem dX8_play_13 : decode cX8_play 13 = .ok (.aload_n 0, 1) := by decide +kernel
theorem dX8_play_14 : decode cX8_play 14 = .ok (.getfield 51, 3) := by decide +kernel
theorem dX8_play_17 : decode cX8_play 17 = .ok (.iload_n 3, 1) := by decide +kernel
theorem dX8_play_18 : decode cX8_play 18 = .ok (.iconst 0, 1) := by decide +kernel
theorem dX8_play_19 : decode cX8_play 19 = .ok (.iastore, 1) := by decide +kernel
theorem dX8_play_20 : decode cX8_play 20 = .ok (.iinc 3 1, 3) := by decide +kernel
theorem dX8_play_23 : decode cX8_play 23 = .ok (.goto (-16), 3) := by decide +kernel
theorem dX8_play_26 : decode cX8_play 26 = .ok (.iconst 0, 1) := by decide +kernel
theorem dX8_play_27 : decode cX8_play 27 = .ok (.istore_n 3, 1) := by decide +kernel
theorem dX8_play_28 : decode cX8_play 28 = .ok (.iload_n 3, 1) := by decide +kernel
theorem dX8_play_29 : decode cX8_play 29 = .ok (.bipush 8, 2) := by decide +kernel
theorem dX8_play_31 : decode cX8_play 31 = .ok (.if_icmp .ge 16, 3) := by decide +kernel
theorem dX8_play_34 : decode cX8_play 34 = .ok (.aload_n 0, 1) := by decide +kernel
theorem dX8_play_35 : decode cX8_play 35 = .ok (.getfield 45, 3) := by decide +kernel
theorem dX8_play_38 : decode cX8_play 38 = .ok (.iload_n 3, 1) := by decide +kernel
theorem dX8_play_39 : decode cX8_play 39 = .ok (.iconst 0, 1) := by decide +kernel
theorem dX8_play_40 : decode cX8_play 40 = .ok (.iastore, 1) := by decide +kernel
theorem dX8_play_41 : decode cX8_play 41 = .ok (.iinc 3 1, 3) := by decide +kernel
theorem dX8_play_44 : decode cX8_play 44 = .ok (.goto (-16), 3) := by decide +kernel
theorem dX8_play_47 : decode cX8_play 47 = .ok (.aload_n 0, 1) := by decide +kernel
theorem dX8_play_48 : decode cX8_play 48 = .ok (.aload_n 1, 1) := by decide +kernel
theorem dX8_play_49 : decode cX8_play 49 = .ok (.invokevirtual 117, 3) := by decide +kernel
theorem dX8_play_52 : decode cX8_play 52 = .ok (.iconst (-1), 1) := by decide +kernel
theorem dX8_play_53 : decode cX8_play 53 = .ok (.istore_n 3, 1) := by decide +kernel
theorem dX8_play_54 : decode cX8_play 54 = .ok (.aload_n 0, 1) := by decide +kernel
theorem dX8_play_55 : decode cX8_play 55 = .ok (.aload_n 1, 1) := by decide +kernel
theorem dX8_play_56 : decode cX8_play 56 = .ok (.iload_n 2, 1) := by decide +kernel
theorem dX8_play_57 : decode cX8_play 57 = .ok (.iload_n 3, 1) := by decide +kernel
theorem dX8_play_58 : decode cX8_play 58 = .ok (.invokevirtual 120, 3) := by decide +kernel
theorem dX8_play_61 : decode cX8_play 61 = .ok (.istore 4, 2) := by decide +kernel
theorem dX8_play_63 : decode cX8_play 63 = .ok (.iload 4, 2) := by decide +kernel
theorem dX8_play_65 : decode cX8_play 65 = .ok (.iconst (-1), 1) := by decide +kernel
theorem dX8_play_66 : decode cX8_play 66 = .ok (.if_icmp .eq 61, 3) := by decide +kernel
theorem dX8_play_69 : decode cX8_play 69 = .ok (.aload_n 1, 1) := by decide +kernel
theorem dX8_play_70 : decode cX8_play 70 = .ok (.iload 4, 2) := by decide +kernel
theorem dX8_play_72 : decode cX8_play 72 = .ok (.invokestatic 124, 3) := by decide +kernel
theorem dX8_play_75 : decode cX8_play 75 = .ok (.aload_n 0, 1) := by decide +kernel
theorem dX8_play_76 : decode cX8_play 76 = .ok (.getfield 45, 3) := by decide +kernel
theorem dX8_play_79 : decode cX8_play 79 = .ok (.iload 4, 2) := by decide +kernel
theorem dX8_play_81 : decode cX8_play 81 = .ok (.dup2, 1) := by decide +kernel
theorem dX8_play_82 : decode cX8_play 82 = .ok (.iaload, 1) := by decide +kernel
theorem dX8_play_83 : decode cX8_play 83 = .ok (.iconst 1, 1) := by decide +kernel
theorem dX8_play_84 : decode cX8_play 84 = .ok (.iadd, 1) := by decide +kernel
theorem dX8_play_85 : decode cX8_play 85 = .ok (.iastore, 1) := by decide +kernel
theorem dX8_play_86 : decode cX8_play 86 = .ok (.aload_n 0, 1) := by decide +kernel
theorem dX8_play_87 : decode cX8_play 87 = .ok (.getfield 48, 3) := by decide +kernel
theorem dX8_play_90 : decode cX8_play 90 = .ok (.aload_n 0, 1) := by decide +kernel
theorem dX8_play_91 : decode cX8_play 91 = .ok (.getfield 114, 3) := by decide +kernel
theorem dX8_play_94 : decode cX8_play 94 = .ok (.iload 4, 2) := by decide +kernel
theorem dX8_play_96 : decode cX8_play 96 = .ok (.iastore, 1) := by decide +kernel
theorem dX8_play_97 : decode cX8_play 97 = .ok (.aload_n 0, 1) := by decide +kernel
theorem dX8_play_98 : decode cX8_play 98 = .ok (.dup, 1) := by decide +kernel
theorem dX8_play_99 : decode cX8_play 99 = .ok (.getfield 114, 3) := by decide +kernel
theorem dX8_play_102 : decode cX8_play 102 = .ok (.iconst 1, 1) := by decide +kernel
theorem dX8_play_103 : decode cX8_play 103 = .ok (.iadd, 1) := by decide +kernel
theorem dX8_play_104 : decode cX8_play 104 = .ok (.putfield 114, 3) := by decide +kernel
theorem dX8_play_107 : decode cX8_play 107 = .ok (.aload_n 0, 1) := by decide +kernel
theorem dX8_play_108 : decode cX8_play 108 = .ok (.aload_n 1, 1) := by decide +kernel
theorem dX8_play_109 : decode cX8_play 109 = .ok (.invokevirtual 117, 3) := by decide +kernel
theorem dX8_play_112 : decode cX8_play 112 = .ok (.iload 4, 2) := by decide +kernel
theorem dX8_play_114 : decode cX8_play 114 = .ok (.istore_n 3, 1) := by decide +kernel
theorem dX8_play_115 : decode cX8_play 115 = .ok (.aload_n 0, 1) := by decide +kernel
theorem dX8_play_116 : decode cX8_play 116 = .ok (.aload_n 1, 1) := by decide +kernel
theorem dX8_play_117 : decode cX8_play 117 = .ok (.iload_n 2, 1) := by decide +kernel
theorem dX8_play_118 : decode cX8_play 118 = .ok (.iload_n 3, 1) := by decide +kernel
theorem dX8_play_119 : decode cX8_play 119 = .ok (.invokevirtual 120, 3) := by decide +kernel
theorem dX8_play_122 : decode cX8_play 122 = .ok (.istore 4, 2) := by decide +kernel
theorem dX8_play_124 : decode cX8_play 124 = .ok (.goto (-61), 3) := by decide +kernel
theorem dX8_play_127 : decode cX8_play 127 = .ok (.aload_n 0, 1) := by decide +kernel
theorem dX8_play_128 : decode cX8_play 128 = .ok (.iconst 1, 1) := by decide +kernel
theorem dX8_play_129 : decode cX8_play 129 = .ok (.putfield 127, 3) := by decide +kernel
theorem dX8_play_132 : decode cX8_play 132 = .ok (.iconst 0, 1) := by decide +kernel
theorem dX8_play_133 : decode cX8_play 133 = .ok (.istore 5, 2) := by decide +kernel
theorem dX8_play_135 : decode cX8_play 135 = .ok (.iload 5, 2) := by decide +kernel
theorem dX8_play_137 : decode cX8_play 137 = .ok (.aload_n 1, 1) := by decide +kernel
theorem dX8_play_138 : decode cX8_play 138 = .ok (.iconst 0, 1) := by decide +kernel
theorem dX8_play_139 : decode cX8_play 139 = .ok (.iaload, 1) := by decide +kernel
theorem dX8_play_140 : decode cX8_play 140 = .ok (.if_icmp .ge 42, 3) := by decide +kernel
theorem dX8_play_143 : decode cX8_play 143 = .ok (.aload_n 0, 1) := by decide +kernel
theorem dX8_play_144 : decode cX8_play 144 = .ok (.aload_n 0, 1) := by decide +kernel
theorem dX8_play_145 : decode cX8_play 145 = .ok (.getfield 127, 3) := by decide +kernel
theorem dX8_play_148 : decode cX8_play 148 = .ok (.ifCond .eq 24, 3) := by decide +kernel
theorem dX8_play_151 : decode cX8_play 151 = .ok (.aload_n 0, 1) := by decide +kernel
theorem dX8_play_152 : decode cX8_play 152 = .ok (.getfield 45, 3) := by decide +kernel
theorem dX8_play_155 : decode cX8_play 155 = .ok (.iload 5, 2) := by decide +kernel
theorem dX8_play_157 : decode cX8_play 157 = .ok (.iaload, 1) := by decide +kernel
theorem dX8_play_158 : decode cX8_play 158 = .ok (.aload_n 0, 1) := by decide +kernel
theorem dX8_play_159 : decode cX8_play 159 = .ok (.getfield 32, 3) := by decide +kernel
theorem dX8_play_162 : decode cX8_play 162 = .ok (.iload 5, 2) := by decide +kernel
theorem dX8_play_164 : decode cX8_play 164 = .ok (.iaload, 1) := by decide +kernel
theorem dX8_play_165 : decode cX8_play 165 = .ok (.if_icmp .ne 7, 3) := by decide +kernel
theorem dX8_play_168 : decode cX8_play 168 = .ok (.iconst 1, 1) := by decide +kernel
theorem dX8_play_169 : decode cX8_play 169 = .ok (.goto 4, 3) := by decide +kernel
theorem dX8_play_172 : decode cX8_play 172 = .ok (.iconst 0, 1) := by decide +kernel
theorem dX8_play_173 : decode cX8_play 173 = .ok (.putfield 127, 3) := by decide +kernel
theorem dX8_play_176 : decode cX8_play 176 = .ok (.iinc 5 1, 3) := by decide +kernel
theorem dX8_play_179 : decode cX8_play 179 = .ok (.goto (-44), 3) := by decide +kernel
theorem dX8_play_182 : decode cX8_play 182 = .ok (.return_, 1) := by decide +kernel
theorem dX8_tryRound_0 : decode cX8_tryRound 0 = .ok (.aload_n 0, 1) := by decide +kernel
theorem dX8_tryRound_1 : decode cX8_tryRound 1 = .ok (.invokevirtual 131, 3) := by decide +kernel
theorem dX8_tryRound_4 : decode cX8_tryRound 4 = .ok (.aload_n 0, 1) := by decide +kernel
theorem dX8_tryRound_5 : decode cX8_tryRound 5 = .ok (.aload_n 0, 1) := by decide +kernel
theorem dX8_tryRound_6 : decode cX8_tryRound 6 = .ok (.getfield 19, 3) := by decide +kernel
theorem dX8_tryRound_9 : decode cX8_tryRound 9 = .ok (.invokevirtual 134, 3) := by decide +kernel
theorem dX8_tryRound_12 : decode cX8_tryRound 12 = .ok (.istore_n 2, 1) := by decide +kernel
theorem dX8_tryRound_13 : decode cX8_tryRound 13 = .ok (.iload_n 2, 1) := by decide +kernel
theorem dX8_tryRound_14 : decode cX8_tryRound 14 = .ok (.ifCond .eq 12, 3) := by decide +kernel
theorem dX8_tryRound_17 : decode cX8_tryRound 17 = .ok (.aload_n 0, 1) := by decide +kernel
theorem dX8_tryRound_18 : decode cX8_tryRound 18 = .ok (.aload_n 0, 1) := by decide +kernel
theorem dX8_tryRound_19 : decode cX8_tryRound 19 = .ok (.getfield 19, 3) := by decide +kernel
theorem dX8_tryRound_22 : decode cX8_tryRound 22 = .ok (.iload_n 1, 1) := by decide +kernel
theorem dX8_tryRound_23 : decode cX8_tryRound 23 = .ok (.invokevirtual 138, 3) := by decide +kernel
theorem dX8_tryRound_26 : decode cX8_tryRound 26 = .ok (.iload_n 2, 1) := by decide +kernel
theorem dX8_tryRound_27 : decode cX8_tryRound 27 = .ok (.ireturn, 1) := by decide +kernel
theorem dX8_cutIn_0 : decode cX8_cutIn 0 = .ok (.aload_n 0, 1) := by decide +kernel
theorem dX8_cutIn_1 : decode cX8_cutIn 1 = .ok (.iload_n 1, 1) := by decide +kernel
theorem dX8_cutIn_2 : decode cX8_cutIn 2 = .ok (.iconst 1, 1) := by decide +kernel
theorem dX8_cutIn_3 : decode cX8_cutIn 3 = .ok (.iadd, 1) := by decide +kernel
theorem dX8_cutIn_4 : decode cX8_cutIn 4 = .ok (.iconst 0, 1) := by decide +kernel
theorem dX8_cutIn_5 : decode cX8_cutIn 5 = .ok (.invokestatic 73, 3) := by decide +kernel
theorem dX8_cutIn_8 : decode cX8_cutIn 8 = .ok (.aload_n 0, 1) := by decide +kernel
theorem dX8_cutIn_9 : decode cX8_cutIn 9 = .ok (.iload_n 1, 1) := by decide +kernel
theorem dX8_cutIn_10 : decode cX8_cutIn 10 = .ok (.iconst 0, 1) := by decide +kernel
theorem dX8_cutIn_11 : decode cX8_cutIn 11 = .ok (.invokestatic 73, 3) := by decide +kernel
theorem dX8_cutIn_14 : decode cX8_cutIn 14 = .ok (.iconst 5, 1) := by decide +kernel
theorem dX8_cutIn_15 : decode cX8_cutIn 15 = .ok (.aload_n 0, 1) := by decide +kernel
theorem dX8_cutIn_16 : decode cX8_cutIn 16 = .ok (.iconst 1, 1) := by decide +kernel
theorem dX8_cutIn_17 : decode cX8_cutIn 17 = .ok (.iaload, 1) := by decide +kernel
theorem dX8_cutIn_18 : decode cX8_cutIn 18 = .ok (.iconst 1, 1) := by decide +kernel
theorem dX8_cutIn_19 : decode cX8_cutIn 19 = .ok (.isub, 1) := by decide +kernel
theorem dX8_cutIn_20 : decode cX8_cutIn 20 = .ok (.iload_n 1, 1) := by decide +kernel
theorem dX8_cutIn_21 : decode cX8_cutIn 21 = .ok (.isub, 1) := by decide +kernel
theorem dX8_cutIn_22 : decode cX8_cutIn 22 = .ok (.imul, 1) := by decide +kernel
theorem dX8_cutIn_23 : decode cX8_cutIn 23 = .ok (.invokestatic 69, 3) := by decide +kernel
theorem dX8_cutIn_26 : decode cX8_cutIn 26 = .ok (.aload_n 0, 1) := by decide +kernel
theorem dX8_cutIn_27 : decode cX8_cutIn 27 = .ok (.iconst 1, 1) := by decide +kernel
theorem dX8_cutIn_28 : decode cX8_cutIn 28 = .ok (.dup2, 1) := by decide +kernel
theorem dX8_cutIn_29 : decode cX8_cutIn 29 = .ok (.iaload, 1) := by decide +kernel
theorem dX8_cutIn_30 : decode cX8_cutIn 30 = .ok (.iconst 1, 1) := by decide +kernel
theorem dX8_cutIn_31 : decode cX8_cutIn 31 = .ok (.isub, 1) := by decide +kernel
theorem dX8_cutIn_32 : decode cX8_cutIn 32 = .ok (.iastore, 1) := by decide +kernel
theorem dX8_cutIn_33 : decode cX8_cutIn 33 = .ok (.return_, 1) := by decide +kernel
theorem dX8_add_0 : decode cX8_add 0 = .ok (.aload_n 0, 1) := by decide +kernel
theorem dX8_add_1 : decode cX8_add 1 = .ok (.iconst 0, 1) := by decide +kernel
theorem dX8_add_2 : decode cX8_add 2 = .ok (.iaload, 1) := by decide +kernel
theorem dX8_add_3 : decode cX8_add 3 = .ok (.istore_n 3, 1) := by decide +kernel
theorem dX8_add_4 : decode cX8_add 4 = .ok (.aload_n 0, 1) := by decide +kernel
theorem dX8_add_5 : decode cX8_add 5 = .ok (.iload_n 3, 1) := by decide +kernel
theorem dX8_add_6 : decode cX8_add 6 = .ok (.iconst 0, 1) := by decide +kernel
theorem dX8_add_7 : decode cX8_add 7 = .ok (.invokestatic 77, 3) := by decide +kernel
theorem dX8_add_10 : decode cX8_add 10 = .ok (.iload_n 1, 1) := by decide +kernel
theorem dX8_add_11 : decode cX8_add 11 = .ok (.iastore, 1) := by decide +kernel
theorem dX8_add_12 : decode cX8_add 12 = .ok (.aload_n 0, 1) := by decide +kernel
theorem dX8_add_13 : decode cX8_add 13 = .ok (.iload_n 3, 1) := by decide +kernel
theorem dX8_add_14 : decode cX8_add 14 = .ok (.iconst 1, 1) := by decide +kernel
theorem dX8_add_15 : decode cX8_add 15 = .ok (.invokestatic 77, 3) := by decide +kernel
theorem dX8_add_18 : decode cX8_add 18 = .ok (.iload_n 2, 1) := by decide +kernel
theorem dX8_add_19 : decode cX8_add 19 = .ok (.iastore, 1) := by decide +kernel
theorem dX8_add_20 : decode cX8_add 20 = .ok (.aload_n 0, 1) := by decide +kernel
theorem dX8_add_21 : decode cX8_add 21 = .ok (.iload_n 3, 1) := by decide +kernel
theorem dX8_add_22 : decode cX8_add 22 = .ok (.iconst 2, 1) := by decide +kernel
theorem dX8_add_23 : decode cX8_add 23 = .ok (.invokestatic 77, 3) := by decide +kernel
theorem dX8_add_26 : decode cX8_add 26 = .ok (.iconst 0, 1) := by decide +kernel
theorem dX8_add_27 : decode cX8_add 27 = .ok (.iastore, 1) := by decide +kernel
theorem dX8_add_28 : decode cX8_add 28 = .ok (.aload_n 0, 1) := by decide +kernel
theorem dX8_add_29 : decode cX8_add 29 = .ok (.iconst 0, 1) := by decide +kernel
theorem dX8_add_30 : decode cX8_add 30 = .ok (.dup2, 1) := by decide +kernel
theorem dX8_add_31 : decode cX8_add 31 = .ok (.iaload, 1) := by decide +kernel
theorem dX8_add_32 : decode cX8_add 32 = .ok (.iconst 1, 1) := by decide +kernel
theorem dX8_add_33 : decode cX8_add 33 = .ok (.iadd, 1) := by decide +kernel
theorem dX8_add_34 : decode cX8_add 34 = .ok (.iastore, 1) := by decide +kernel
theorem dX8_add_35 : decode cX8_add 35 = .ok (.return_, 1) := by decide +kernel
theorem dX8_canLay_0 : decode cX8_canLay 0 = .ok (.aload_n 1, 1) := by decide +kernel
theorem dX8_canLay_1 : decode cX8_canLay 1 = .ok (.iload_n 2, 1) := by decide +kernel
theorem dX8_canLay_2 : decode cX8_canLay 2 = .ok (.iconst 1, 1) := by decide +kernel
theorem dX8_canLay_3 : decode cX8_canLay 3 = .ok (.invokestatic 77, 3) := by decide +kernel
theorem dX8_canLay_6 : decode cX8_canLay 6 = .ok (.iaload, 1) := by decide +kernel
theorem dX8_canLay_7 : decode cX8_canLay 7 = .ok (.aload_n 1, 1) := by decide +kernel
theorem dX8_canLay_8 : decode cX8_canLay 8 = .ok (.iload_n 3, 1) := by decide +kernel
theorem dX8_canLay_9 : decode cX8_canLay 9 = .ok (.iconst 0, 1) := by decide +kernel
theorem dX8_canLay_10 : decode cX8_canLay 10 = .ok (.invokestatic 77, 3) := by decide +kernel
theorem dX8_canLay_13 : decode cX8_canLay 13 = .ok (.iaload, 1) := by decide +kernel
theorem dX8_canLay_14 : decode cX8_canLay 14 = .ok (.if_icmp .ne 30, 3) := by decide +kernel
theorem dX8_canLay_17 : decode cX8_canLay 17 = .ok (.aload_n 1, 1) := by decide +kernel
theorem dX8_canLay_18 : decode cX8_canLay 18 = .ok (.iconst 1, 1) := by decide +kernel
theorem dX8_canLay_19 : decode cX8_canLay 19 = .ok (.iaload, 1) := by decide +kernel
theorem dX8_canLay_20 : decode cX8_canLay 20 = .ok (.bipush 14, 2) := by decide +kernel
theorem dX8_canLay_22 : decode cX8_canLay 22 = .ok (.if_icmp .ge 22, 3) := by decide +kernel
theorem dX8_canLay_25 : decode cX8_canLay 25 = .ok (.iload 4, 2) := by decide +kernel
theorem dX8_canLay_27 : decode cX8_canLay 27 = .ok (.ifCond .gt 13, 3) := by decide +kernel
theorem dX8_canLay_30 : decode cX8_canLay 30 = .ok (.aload_n 0, 1) := by decide +kernel
theorem dX8_canLay_31 : decode cX8_canLay 31 = .ok (.aload_n 1, 1) := by decide +kernel
theorem dX8_canLay_32 : decode cX8_canLay 32 = .ok (.iload_n 2, 1) := by decide +kernel
theorem dX8_canLay_33 : decode cX8_canLay 33 = .ok (.iload_n 3, 1) := by decide +kernel
theorem dX8_canLay_34 : decode cX8_canLay 34 = .ok (.invokevirtual 141, 3) := by decide +kernel
theorem dX8_canLay_37 : decode cX8_canLay 37 = .ok (.ifCond .ne 7, 3) := by decide +kernel
theorem dX8_canLay_40 : decode cX8_canLay 40 = .ok (.iconst 1, 1) := by decide +kernel
theorem dX8_canLay_41 : decode cX8_canLay 41 = .ok (.goto 4, 3) := by decide +kernel
theorem dX8_canLay_44 : decode cX8_canLay 44 = .ok (.iconst 0, 1) := by decide +kernel
theorem dX8_canLay_45 : decode cX8_canLay 45 = .ok (.ireturn, 1) := by decide +kernel
theorem dX8_layIn_0 : decode cX8_layIn 0 = .ok (.aload_n 0, 1) := by decide +kernel
theorem dX8_layIn_1 : decode cX8_layIn 1 = .ok (.iconst 1, 1) := by decide +kernel
theorem dX8_layIn_2 : decode cX8_layIn 2 = .ok (.iaload, 1) := by decide +kernel
theorem dX8_layIn_3 : decode cX8_layIn 3 = .ok (.istore 6, 2) := by decide +kernel
theorem dX8_layIn_5 : decode cX8_layIn 5 = .ok (.aload_n 0, 1) := by decide +kernel
theorem dX8_layIn_6 : decode cX8_layIn 6 = .ok (.iload 6, 2) := by decide +kernel
theorem dX8_layIn_8 : decode cX8_layIn 8 = .ok (.iconst 0, 1) := by decide +kernel
theorem dX8_layIn_9 : decode cX8_layIn 9 = .ok (.invokestatic 73, 3) := by decide +kernel
theorem dX8_layIn_12 : decode cX8_layIn 12 = .ok (.iload_n 1, 1) := by decide +kernel
theorem dX8_layIn_13 : decode cX8_layIn 13 = .ok (.iastore, 1) := by decide +kernel
theorem dX8_layIn_14 : decode cX8_layIn 14 = .ok (.aload_n 0, 1) := by decide +kernel
theorem dX8_layIn_15 : decode cX8_layIn 15 = .ok (.iload 6, 2) := by decide +kernel
theorem dX8_layIn_17 : decode cX8_layIn 17 = .ok (.iconst 1, 1) := by decide +kernel
theorem dX8_layIn_18 : decode cX8_layIn 18 = .ok (.invokestatic 73, 3) := by decide +kernel
theorem dX8_layIn_21 : decode cX8_layIn 21 = .ok (.iload_n 2, 1) := by decide +kernel
theorem dX8_layIn_22 : decode cX8_layIn 22 = .ok (.iastore, 1) := by decide +kernel
theorem dX8_layIn_23 : decode cX8_layIn 23 = .ok (.aload_n 0, 1) := by decide +kernel
theorem dX8_layIn_24 : decode cX8_layIn 24 = .ok (.iload 6, 2) := by decide +kernel
theorem dX8_layIn_26 : decode cX8_layIn 26 = .ok (.iconst 2, 1) := by decide +kernel
theorem dX8_layIn_27 : decode cX8_layIn 27 = .ok (.invokestatic 73, 3) := by decide +kernel
theorem dX8_layIn_30 : decode cX8_layIn 30 = .ok (.iload_n 3, 1) := by decide +kernel
theorem dX8_layIn_31 : decode cX8_layIn 31 = .ok (.iastore, 1) := by decide +kernel
theorem dX8_layIn_32 : decode cX8_layIn 32 = .ok (.aload_n 0, 1) := by decide +kernel
theorem dX8_layIn_33 : decode cX8_layIn 33 = .ok (.iload 6, 2) := by decide +kernel
theorem dX8_layIn_35 : decode cX8_layIn 35 = .ok (.iconst 3, 1) := by decide +kernel
theorem dX8_layIn_36 : decode cX8_layIn 36 = .ok (.invokestatic 73, 3) := by decide +kernel
theorem dX8_layIn_39 : decode cX8_layIn 39 = .ok (.iload 4, 2) := by decide +kernel
theorem dX8_layIn_41 : decode cX8_layIn 41 = .ok (.iastore, 1) := by decide +kernel
theorem dX8_layIn_42 : decode cX8_layIn 42 = .ok (.aload_n 0, 1) := by decide +kernel
theorem dX8_layIn_43 : decode cX8_layIn 43 = .ok (.iload 6, 2) := by decide +kernel
theorem dX8_layIn_45 : decode cX8_layIn 45 = .ok (.iconst 4, 1) := by decide +kernel
theorem dX8_layIn_46 : decode cX8_layIn 46 = .ok (.invokestatic 73, 3) := by decide +kernel
theorem dX8_layIn_49 : decode cX8_layIn 49 = .ok (.iload 5, 2) := by decide +kernel
theorem dX8_layIn_51 : decode cX8_layIn 51 = .ok (.iastore, 1) := by decide +kernel
theorem dX8_layIn_52 : decode cX8_layIn 52 = .ok (.aload_n 0, 1) := by decide +kernel
theorem dX8_layIn_53 : decode cX8_layIn 53 = .ok (.iconst 1, 1) := by decide +kernel
theorem dX8_layIn_54 : decode cX8_layIn 54 = .ok (.dup2, 1) := by decide +kernel
theorem dX8_layIn_55 : decode cX8_layIn 55 = .ok (.iaload, 1) := by decide +kernel
theorem dX8_layIn_56 : decode cX8_layIn 56 = .ok (.iconst 1, 1) := by decide +kernel
theorem dX8_layIn_57 : decode cX8_layIn 57 = .ok (.iadd, 1) := by decide +kernel
theorem dX8_layIn_58 : decode cX8_layIn 58 = .ok (.iastore, 1) := by decide +kernel
theorem dX8_layIn_59 : decode cX8_layIn 59 = .ok (.return_, 1) := by decide +kernel
theorem dX8_canPut_0 : decode cX8_canPut 0 = .ok (.iload_n 3, 1) := by decide +kernel
theorem dX8_canPut_1 : decode cX8_canPut 1 = .ok (.ifCond .gt 25, 3) := by decide +kernel
theorem dX8_canPut_4 : decode cX8_canPut 4 = .ok (.aload_n 0, 1) := by decide +kernel
theorem dX8_canPut_5 : decode cX8_canPut 5 = .ok (.aload_n 1, 1) := by decide +kernel
theorem dX8_canPut_6 : decode cX8_canPut 6 = .ok (.aload_n 1, 1) := by decide +kernel
theorem dX8_canPut_7 : decode cX8_canPut 7 = .ok (.iload_n 2, 1) := by decide +kernel
theorem dX8_canPut_8 : decode cX8_canPut 8 = .ok (.iconst 0, 1) := by decide +kernel
theorem dX8_canPut_9 : decode cX8_canPut 9 = .ok (.invokestatic 73, 3) := by decide +kernel
theorem dX8_canPut_12 : decode cX8_canPut 12 = .ok (.iaload, 1) := by decide +kernel
theorem dX8_canPut_13 : decode cX8_canPut 13 = .ok (.aload_n 1, 1) := by decide +kernel
theorem dX8_canPut_14 : decode cX8_canPut 14 = .ok (.iload_n 2, 1) := by decide +kernel
theorem dX8_canPut_15 : decode cX8_canPut 15 = .ok (.iconst 1, 1) := by decide +kernel
theorem dX8_canPut_16 : decode cX8_canPut 16 = .ok (.invokestatic 73, 3) := by decide +kernel
theorem dX8_canPut_19 : decode cX8_canPut 19 = .ok (.iaload, 1) := by decide +kernel
theorem dX8_canPut_20 : decode cX8_canPut 20 = .ok (.invokevirtual 141, 3) := by decide +kernel
theorem dX8_canPut_23 : decode cX8_canPut 23 = .ok (.ifCond .ne 7, 3) := by decide +kernel
theorem dX8_canPut_26 : decode cX8_canPut 26 = .ok (.iconst 1, 1) := by decide +kernel
theorem dX8_canPut_27 : decode cX8_canPut 27 = .ok (.goto 4, 3) := by decide +kernel
theorem dX8_canPut_30 : decode cX8_canPut 30 = .ok (.iconst 0, 1) := by decide +kernel
theorem dX8_canPut_31 : decode cX8_canPut 31 = .ok (.ireturn, 1) := by decide +kernel
theorem dX8_append_0 : decode cX8_append 0 = .ok (.aload_n 0, 1) := by decide +kernel
theorem dX8_append_1 : decode cX8_append 1 = .ok (.iload_n 1, 1) := by decide +kernel
theorem dX8_append_2 : decode cX8_append 2 = .ok (.i2l, 1) := by decide +kernel
theorem dX8_append_3 : decode cX8_append 3 = .ok (.lconst 0, 1) := by decide +kernel
theorem dX8_append_4 : decode cX8_append 4 = .ok (.ldc2_w 144, 3) := by decide +kernel
theorem dX8_append_7 : decode cX8_append 7 = .ok (.invokestatic 146, 3) := by decide +kernel
theorem dX8_append_10 : decode cX8_append 10 = .ok (.ifCond .ne 7, 3) := by decide +kernel
theorem dX8_append_13 : decode cX8_append 13 = .ok (.iconst 1, 1) := by decide +kernel
theorem dX8_append_14 : decode cX8_append 14 = .ok (.goto 17, 3) := by decide +kernel
theorem dX8_append_17 : decode cX8_append 17 = .ok (.aload_n 0, 1) := by decide +kernel
theorem dX8_append_18 : decode cX8_append 18 = .ok (.getfield 150, 3) := by decide +kernel
theorem dX8_append_21 : decode cX8_append 21 = .ok (.bipush 120, 2) := by decide +kernel
theorem dX8_append_23 : decode cX8_append 23 = .ok (.if_icmp .ne 7, 3) := by decide +kernel
theorem dX8_append_26 : decode cX8_append 26 = .ok (.iconst 2, 1) := by decide +kernel
theorem dX8_append_27 : decode cX8_append 27 = .ok (.goto 4, 3) := by decide +kernel
theorem dX8_append_30 : decode cX8_append 30 = .ok (.iconst 0, 1) := by decide +kernel
theorem dX8_append_31 : decode cX8_append 31 = .ok (.invokevirtual 153, 3) := by decide +kernel
theorem dX8_append_34 : decode cX8_append 34 = .ok (.ifCond .eq 5, 3) := by decide +kernel
theorem dX8_append_37 : decode cX8_append 37 = .ok (.iconst 0, 1) := by decide +kernel
theorem dX8_append_38 : decode cX8_append 38 = .ok (.ireturn, 1) := by decide +kernel
theorem dX8_append_39 : decode cX8_append 39 = .ok (.aload_n 0, 1) := by decide +kernel
theorem dX8_append_40 : decode cX8_append 40 = .ok (.getfield 7, 3) := by decide +kernel
theorem dX8_append_43 : decode cX8_append 43 = .ok (.aload_n 0, 1) := by decide +kernel
theorem dX8_append_44 : decode cX8_append 44 = .ok (.getfield 150, 3) := by decide +kernel
theorem dX8_append_47 : decode cX8_append 47 = .ok (.iload_n 1, 1) := by decide +kernel
theorem dX8_append_48 : decode cX8_append 48 = .ok (.iastore, 1) := by decide +kernel
theorem dX8_append_49 : decode cX8_append 49 = .ok (.aload_n 0, 1) := by decide +kernel
theorem dX8_append_50 : decode cX8_append 50 = .ok (.dup, 1) := by decide +kernel
theorem dX8_append_51 : decode cX8_append 51 = .ok (.getfield 150, 3) := by decide +kernel
theorem dX8_append_54 : decode cX8_append 54 = .ok (.iconst 1, 1) := by decide +kernel
theorem dX8_append_55 : decode cX8_append 55 = .ok (.iadd, 1) := by decide +kernel
theorem dX8_append_56 : decode cX8_append 56 = .ok (.putfield 150, 3) := by decide +kernel
theorem dX8_append_59 : decode cX8_append 59 = .ok (.aload_n 0, 1) := by decide +kernel
theorem dX8_append_60 : decode cX8_append 60 = .ok (.getfield 150, 3) := by decide +kernel
theorem dX8_append_63 : decode cX8_append 63 = .ok (.ireturn, 1) := by decide +kernel
theorem dX8_clearText_0 : decode cX8_clearText 0 = .ok (.aload_n 0, 1) := by decide +kernel
theorem dX8_clearText_1 : decode cX8_clearText 1 = .ok (.iconst 0, 1) := by decide +kernel
theorem dX8_clearText_2 : decode cX8_clearText 2 = .ok (.putfield 60, 3) := by decide +kernel
theorem dX8_clearText_5 : decode cX8_clearText 5 = .ok (.aload_n 0, 1) := by decide +kernel
theorem dX8_clearText_6 : decode cX8_clearText 6 = .ok (.getfield 150, 3) := by decide +kernel
theorem dX8_clearText_9 : decode cX8_clearText 9 = .ok (.istore_n 1, 1) := by decide +kernel
theorem dX8_clearText_10 : decode cX8_clearText 10 = .ok (.aload_n 0, 1) := by decide +kernel
theorem dX8_clearText_11 : decode cX8_clearText 11 = .ok (.iconst 0, 1) := by decide +kernel
theorem dX8_clearText_12 : decode cX8_clearText 12 = .ok (.putfield 150, 3) := by decide +kernel
theorem dX8_clearText_15 : decode cX8_clearText 15 = .ok (.iload_n 1, 1) := by decide +kernel
theorem dX8_clearText_16 : decode cX8_clearText 16 = .ok (.ireturn, 1) := by decide +kernel
theorem dX8_isNext_0 : decode cX8_isNext 0 = .ok (.aload_n 0, 1) := by decide +kernel
theorem dX8_isNext_1 : decode cX8_isNext 1 = .ok (.getfield 157, 3) := by decide +kernel
theorem dX8_isNext_4 : decode cX8_isNext 4 = .ok (.aload_n 0, 1) := by decide +kernel
theorem dX8_isNext_5 : decode cX8_isNext 5 = .ok (.getfield 150, 3) := by decide +kernel
theorem dX8_isNext_8 : decode cX8_isNext 8 = .ok (.if_icmp .ge 20, 3) := by decide +kernel
theorem dX8_isNext_11 : decode cX8_isNext 11 = .ok (.aload_n 0, 1) := by decide +kernel
theorem dX8_isNext_12 : decode cX8_isNext 12 = .ok (.getfield 7, 3) := by decide +kernel
theorem dX8_isNext_15 : decode cX8_isNext 15 = .ok (.aload_n 0, 1) := by decide +kernel
theorem dX8_isNext_16 : decode cX8_isNext 16 = .ok (.getfield 157, 3) := by decide +kernel
theorem dX8_isNext_19 : decode cX8_isNext 19 = .ok (.iaload, 1) := by decide +kernel
theorem dX8_isNext_20 : decode cX8_isNext 20 = .ok (.iload_n 1, 1) := by decide +kernel
theorem dX8_isNext_21 : decode cX8_isNext 21 = .ok (.if_icmp .ne 7, 3) := by decide +kernel
theorem dX8_isNext_24 : decode cX8_isNext 24 = .ok (.iconst 1, 1) := by decide +kernel
theorem dX8_isNext_25 : decode cX8_isNext 25 = .ok (.goto 4, 3) := by decide +kernel
theorem dX8_isNext_28 : decode cX8_isNext 28 = .ok (.iconst 0, 1) := by decide +kernel
theorem dX8_isNext_29 : decode cX8_isNext 29 = .ok (.ireturn, 1) := by decide +kernel
theorem dX8_accept_0 : decode cX8_accept 0 = .ok (.aload_n 0, 1) := by decide +kernel
theorem dX8_accept_1 : decode cX8_accept 1 = .ok (.aload_n 0, 1) := by decide +kernel
theorem dX8_accept_2 : decode cX8_accept 2 = .ok (.getfield 160, 3) := by decide +kernel
theorem dX8_accept_5 : decode cX8_accept 5 = .ok (.ifCond .eq 11, 3) := by decide +kernel
theorem dX8_accept_8 : decode cX8_accept 8 = .ok (.iload_n 1, 1) := by decide +kernel
theorem dX8_accept_9 : decode cX8_accept 9 = .ok (.ifCond .eq 7, 3) := by decide +kernel
theorem dX8_accept_12 : decode cX8_accept 12 = .ok (.iconst 1, 1) := by decide +kernel
theorem dX8_accept_13 : decode cX8_accept 13 = .ok (.goto 4, 3) := by decide +kernel
theorem dX8_accept_16 : decode cX8_accept 16 = .ok (.iconst 0, 1) := by decide +kernel
theorem dX8_accept_17 : decode cX8_accept 17 = .ok (.putfield 160, 3) := by decide +kernel
theorem dX8_accept_20 : decode cX8_accept 20 = .ok (.aload_n 0, 1) := by decide +kernel
theorem dX8_accept_21 : decode cX8_accept 21 = .ok (.dup, 1) := by decide +kernel
theorem dX8_accept_22 : decode cX8_accept 22 = .ok (.getfield 157, 3) := by decide +kernel
theorem dX8_accept_25 : decode cX8_accept 25 = .ok (.aload_n 0, 1) := by decide +kernel
theorem dX8_accept_26 : decode cX8_accept 26 = .ok (.getfield 160, 3) := by decide +kernel
theorem dX8_accept_29 : decode cX8_accept 29 = .ok (.ifCond .eq 7, 3) := by decide +kernel
theorem dX8_accept_32 : decode cX8_accept 32 = .ok (.iconst 1, 1) := by decide +kernel
theorem dX8_accept_33 : decode cX8_accept 33 = .ok (.goto 4, 3) := by decide +kernel
theorem dX8_accept_36 : decode cX8_accept 36 = .ok (.iconst 0, 1) := by decide +kernel
theorem dX8_accept_37 : decode cX8_accept 37 = .ok (.iadd, 1) := by decide +kernel
theorem dX8_accept_38 : decode cX8_accept 38 = .ok (.putfield 157, 3) := by decide +kernel
theorem dX8_accept_41 : decode cX8_accept 41 = .ok (.return_, 1) := by decide +kernel
theorem dX8_digit_0 : decode cX8_digit 0 = .ok (.aload_n 0, 1) := by decide +kernel
theorem dX8_digit_1 : decode cX8_digit 1 = .ok (.getfield 157, 3) := by decide +kernel
theorem dX8_digit_4 : decode cX8_digit 4 = .ok (.aload_n 0, 1) := by decide +kernel
theorem dX8_digit_5 : decode cX8_digit 5 = .ok (.getfield 150, 3) := by decide +kernel
theorem dX8_digit_8 : decode cX8_digit 8 = .ok (.if_icmp .ge 18, 3) := by decide +kernel
theorem dX8_digit_11 : decode cX8_digit 11 = .ok (.aload_n 0, 1) := by decide +kernel
theorem dX8_digit_12 : decode cX8_digit 12 = .ok (.getfield 7, 3) := by decide +kernel
theorem dX8_digit_15 : decode cX8_digit 15 = .ok (.aload_n 0, 1) := by decide +kernel
theorem dX8_digit_16 : decode cX8_digit 16 = .ok (.getfield 157, 3) := by decide +kernel
theorem dX8_digit_19 : decode cX8_digit 19 = .ok (.iaload, 1) := by decide +kernel
theorem dX8_digit_20 : decode cX8_digit 20 = .ok (.bipush 48, 2) := by decide +kernel
theorem dX8_digit_22 : decode cX8_digit 22 = .ok (.isub, 1) := by decide +kernel
theorem dX8_digit_23 : decode cX8_digit 23 = .ok (.goto 4, 3) := by decide +kernel
theorem dX8_digit_26 : decode cX8_digit 26 = .ok (.iconst (-1), 1) := by decide +kernel
theorem dX8_digit_27 : decode cX8_digit 27 = .ok (.istore_n 3, 1) := by decide +kernel
theorem dX8_digit_28 : decode cX8_digit 28 = .ok (.aload_n 0, 1) := by decide +kernel
theorem dX8_digit_29 : decode cX8_digit 29 = .ok (.iload_n 3, 1) := by decide +kernel
theorem dX8_digit_30 : decode cX8_digit 30 = .ok (.i2l, 1) := by decide +kernel
theorem dX8_digit_31 : decode cX8_digit 31 = .ok (.lconst 0, 1) := by decide +kernel
theorem dX8_digit_32 : decode cX8_digit 32 = .ok (.ldc2_w 163, 3) := by decide +kernel
theorem dX8_digit_35 : decode cX8_digit 35 = .ok (.invokestatic 146, 3) := by decide +kernel
theorem dX8_digit_38 : decode cX8_digit 38 = .ok (.ifCond .eq 19, 3) := by decide +kernel
theorem dX8_digit_41 : decode cX8_digit 41 = .ok (.iload_n 3, 1) := by decide +kernel
theorem dX8_digit_42 : decode cX8_digit 42 = .ok (.i2l, 1) := by decide +kernel
theorem dX8_digit_43 : decode cX8_digit 43 = .ok (.iload_n 1, 1) := by decide +kernel
theorem dX8_digit_44 : decode cX8_digit 44 = .ok (.i2l, 1) := by decide +kernel
theorem dX8_digit_45 : decode cX8_digit 45 = .ok (.iload_n 2, 1) := by decide +kernel
theorem dX8_digit_46 : decode cX8_digit 46 = .ok (.i2l, 1) := by decide +kernel
theorem dX8_digit_47 : decode cX8_digit 47 = .ok (.invokestatic 146, 3) := by decide +kernel
theorem dX8_digit_50 : decode cX8_digit 50 = .ok (.ifCond .eq 7, 3) := by decide +kernel
theorem dX8_digit_53 : decode cX8_digit 53 = .ok (.iconst 1, 1) := by decide +kernel
theorem dX8_digit_54 : decode cX8_digit 54 = .ok (.goto 4, 3) := by decide +kernel
theorem dX8_digit_57 : decode cX8_digit 57 = .ok (.iconst 0, 1) := by decide +kernel
theorem dX8_digit_58 : decode cX8_digit 58 = .ok (.invokevirtual 165, 3) := by decide +kernel
theorem dX8_digit_61 : decode cX8_digit 61 = .ok (.aload_n 0, 1) := by decide +kernel
theorem dX8_digit_62 : decode cX8_digit 62 = .ok (.getfield 160, 3) := by decide +kernel
theorem dX8_digit_65 : decode cX8_digit 65 = .ok (.ifCond .eq 7, 3) := by decide +kernel
theorem dX8_digit_68 : decode cX8_digit 68 = .ok (.iload_n 3, 1) := by decide +kernel
theorem dX8_digit_69 : decode cX8_digit 69 = .ok (.goto 4, 3) := by decide +kernel
theorem dX8_digit_72 : decode cX8_digit 72 = .ok (.iload_n 1, 1) := by decide +kernel
theorem dX8_digit_73 : decode cX8_digit 73 = .ok (.ireturn, 1) := by decide +kernel
theorem dX8_goes_0 : decode cX8_goes 0 = .ok (.aload_n 0, 1) := by decide +kernel
theorem dX8_goes_1 : decode cX8_goes 1 = .ok (.dup, 1) := by decide +kernel
theorem dX8_goes_2 : decode cX8_goes 2 = .ok (.getfield 169, 3) := by decide +kernel
theorem dX8_goes_5 : decode cX8_goes 5 = .ok (.aload_n 0, 1) := by decide +kernel
theorem dX8_goes_6 : decode cX8_goes 6 = .ok (.getfield 160, 3) := by decide +kernel
theorem dX8_goes_9 : decode cX8_goes 9 = .ok (.ifCond .eq 11, 3) := by decide +kernel
theorem dX8_goes_12 : decode cX8_goes 12 = .ok (.iload_n 1, 1) := by decide +kernel
theorem dX8_goes_13 : decode cX8_goes 13 = .ok (.ifCond .ne 7, 3) := by decide +kernel
theorem dX8_goes_16 : decode cX8_goes 16 = .ok (.iconst 1, 1) := by decide +kernel
theorem dX8_goes_17 : decode cX8_goes 17 = .ok (.goto 4, 3) := by decide +kernel
theorem dX8_goes_20 : decode cX8_goes 20 = .ok (.iconst 0, 1) := by decide +kernel
theorem dX8_goes_21 : decode cX8_goes 21 = .ok (.iadd, 1) := by decide +kernel
theorem dX8_goes_22 : decode cX8_goes 22 = .ok (.putfield 169, 3) := by decide +kernel
theorem dX8_goes_25 : decode cX8_goes 25 = .ok (.aload_n 0, 1) := by decide +kernel
theorem dX8_goes_26 : decode cX8_goes 26 = .ok (.getfield 160, 3) := by decide +kernel
theorem dX8_goes_29 : decode cX8_goes 29 = .ok (.ifCond .eq 11, 3) := by decide +kernel
theorem dX8_goes_32 : decode cX8_goes 32 = .ok (.iload_n 1, 1) := by decide +kernel
theorem dX8_goes_33 : decode cX8_goes 33 = .ok (.ifCond .eq 7, 3) := by decide +kernel
theorem dX8_goes_36 : decode cX8_goes 36 = .ok (.iconst 1, 1) := by decide +kernel
theorem dX8_goes_37 : decode cX8_goes 37 = .ok (.goto 4, 3) := by decide +kernel
theorem dX8_goes_40 : decode cX8_goes 40 = .ok (.iconst 0, 1) := by decide +kernel
theorem dX8_goes_41 : decode cX8_goes 41 = .ok (.ireturn, 1) := by decide +kernel
theorem dX8_readModule_0 : decode cX8_readModule 0 = .ok (.aload_n 0, 1) := by decide +kernel
theorem dX8_readModule_1 : decode cX8_readModule 1 = .ok (.iconst 1, 1) := by decide +kernel
theorem dX8_readModule_2 : decode cX8_readModule 2 = .ok (.invokevirtual 165, 3) := by decide +kernel
theorem dX8_readModule_5 : decode cX8_readModule 5 = .ok (.aload_n 0, 1) := by decide +kernel
theorem dX8_readModule_6 : decode cX8_readModule 6 = .ok (.iconst 0, 1) := by decide +kernel
theorem dX8_readModule_7 : decode cX8_readModule 7 = .ok (.iconst 3, 1) := by decide +kernel
theorem dX8_readModule_8 : decode cX8_readModule 8 = .ok (.invokevirtual 172, 3) := by decide +kernel
theorem dX8_readModule_11 : decode cX8_readModule 11 = .ok (.istore_n 1, 1) := by decide +kernel
theorem dX8_readModule_12 : decode cX8_readModule 12 = .ok (.aload_n 0, 1) := by decide +kernel
theorem dX8_readModule_13 : decode cX8_readModule 13 = .ok (.iconst 0, 1) := by decide +kernel
theorem dX8_readModule_14 : decode cX8_readModule 14 = .ok (.iconst 3, 1) := by decide +kernel
theorem dX8_readModule_15 : decode cX8_readModule 15 = .ok (.invokevirtual 172, 3) := by decide +kernel
theorem dX8_readModule_18 : decode cX8_readModule 18 = .ok (.istore_n 2, 1) := by decide +kernel
theorem dX8_readModule_19 : decode cX8_readModule 19 = .ok (.aload_n 0, 1) := by decide +kernel
theorem dX8_readModule_20 : decode cX8_readModule 20 = .ok (.aload_n 0, 1) := by decide +kernel
theorem dX8_readModule_21 : decode cX8_readModule 21 = .ok (.getfield 13, 3) := by decide +kernel
theorem dX8_readModule_24 : decode cX8_readModule 24 = .ok (.iconst 0, 1) := by decide +kernel
theorem dX8_readModule_25 : decode cX8_readModule 25 = .ok (.iaload, 1) := by decide +kernel
theorem dX8_readModule_26 : decode cX8_readModule 26 = .ok (.bipush 8, 2) := by decide +kernel
theorem dX8_readModule_28 : decode cX8_readModule 28 = .ok (.if_icmp .ge 7, 3) := by decide +kernel
theorem dX8_readModule_31 : decode cX8_readModule 31 = .ok (.iconst 1, 1) := by decide +kernel
theorem dX8_readModule_32 : decode cX8_readModule 32 = .ok (.goto 4, 3) := by decide +kernel
theorem dX8_readModule_35 : decode cX8_readModule 35 = .ok (.iconst 0, 1) := by decide +kernel
theorem dX8_readModule_36 : decode cX8_readModule 36 = .ok (.invokevirtual 175, 3) := by decide +kernel
theorem dX8_readModule_39 : decode cX8_readModule 39 = .ok (.ifCond .eq 12, 3) := by decide +kernel
theorem dX8_readModule_42 : decode cX8_readModule 42 = .ok (.aload_n 0, 1) := by decide +kernel
theorem dX8_readModule_43 : decode cX8_readModule 43 = .ok (.getfield 13, 3) := by decide +kernel
theorem dX8_readModule_46 : decode cX8_readModule 46 = .ok (.iload_n 1, 1) := by decide +kernel
theorem dX8_readModule_47 : decode cX8_readModule 47 = .ok (.iload_n 2, 1) := by decide +kernel
theorem dX8_readModule_48 : decode cX8_readModule 48 = .ok (.invokestatic 179, 3) := by decide +kernel
theorem dX8_readModule_51 : decode cX8_readModule 51 = .ok (.return_, 1) := by decide +kernel
theorem dX8_readWire_0 : decode cX8_readWire 0 = .ok (.aload_n 0, 1) := by decide +kernel
theorem dX8_readWire_1 : decode cX8_readWire 1 = .ok (.iconst 1, 1) := by decide +kernel
theorem dX8_readWire_2 : decode cX8_readWire 2 = .ok (.invokevirtual 165, 3) := by decide +kernel
theorem dX8_readWire_5 : decode cX8_readWire 5 = .ok (.aload_n 0, 1) := by decide +kernel
theorem dX8_readWire_6 : decode cX8_readWire 6 = .ok (.iconst 0, 1) := by decide +kernel
theorem dX8_readWire_7 : decode cX8_readWire 7 = .ok (.bipush 7, 2) := by decide +kernel
theorem dX8_readWire_9 : decode cX8_readWire 9 = .ok (.invokevirtual 172, 3) := by decide +kernel
theorem dX8_readWire_12 : decode cX8_readWire 12 = .ok (.istore_n 1, 1) := by decide +kernel
theorem dX8_readWire_13 : decode cX8_readWire 13 = .ok (.aload_n 0, 1) := by decide +kernel
theorem dX8_readWire_14 : decode cX8_readWire 14 = .ok (.iconst 0, 1) := by decide +kernel
theorem dX8_readWire_15 : decode cX8_readWire 15 = .ok (.bipush 7, 2) := by decide +kernel
theorem dX8_readWire_17 : decode cX8_readWire 17 = .ok (.invokevirtual 172, 3) := by decide +kernel
theorem dX8_readWire_20 : decode cX8_readWire 20 = .ok (.istore_n 2, 1) := by decide +kernel
theorem dX8_readWire_21 : decode cX8_readWire 21 = .ok (.aload_n 0, 1) := by decide +kernel
theorem dX8_readWire_22 : decode cX8_readWire 22 = .ok (.iconst 1, 1) := by decide +kernel
theorem dX8_readWire_23 : decode cX8_readWire 23 = .ok (.bipush 6, 2) := by decide +kernel
theorem dX8_readWire_25 : decode cX8_readWire 25 = .ok (.invokevirtual 172, 3) := by decide +kernel
theorem dX8_readWire_28 : decode cX8_readWire 28 = .ok (.istore_n 3, 1) := by decide +kernel
theorem dX8_readWire_29 : decode cX8_readWire 29 = .ok (.aload_n 0, 1) := by decide +kernel
theorem dX8_readWire_30 : decode cX8_readWire 30 = .ok (.iconst 1, 1) := by decide +kernel
theorem dX8_readWire_31 : decode cX8_readWire 31 = .ok (.bipush 6, 2) := by decide +kernel
theorem dX8_readWire_33 : decode cX8_readWire 33 = .ok (.invokevirtual 172, 3) := by decide +kernel
theorem dX8_readWire_36 : decode cX8_readWire 36 = .ok (.istore 4, 2) := by decide +kernel
theorem dX8_readWire_38 : decode cX8_readWire 38 = .ok (.aload_n 0, 1) := by decide +kernel
theorem dX8_readWire_39 : decode cX8_readWire 39 = .ok (.iconst 0, 1) := by decide +kernel
theorem dX8_readWire_40 : decode cX8_readWire 40 = .ok (.bipush 9, 2) := by decide +kernel
theorem dX8_readWire_42 : decode cX8_readWire 42 = .ok (.invokevirtual 172, 3) := by decide +kernel
theorem dX8_readWire_45 : decode cX8_readWire 45 = .ok (.istore 5, 2) := by decide +kernel
theorem dX8_readWire_47 : decode cX8_readWire 47 = .ok (.bipush 10, 2) := by decide +kernel
theorem dX8_readWire_49 : decode cX8_readWire 49 = .ok (.iload 5, 2) := by decide +kernel
theorem dX8_readWire_51 : decode cX8_readWire 51 = .ok (.imul, 1) := by decide +kernel
theorem dX8_readWire_52 : decode cX8_readWire 52 = .ok (.aload_n 0, 1) := by decide +kernel
theorem dX8_readWire_53 : decode cX8_readWire 53 = .ok (.iconst 0, 1) := by decide +kernel
theorem dX8_readWire_54 : decode cX8_readWire 54 = .ok (.bipush 9, 2) := by decide +kernel
theorem dX8_readWire_56 : decode cX8_readWire 56 = .ok (.invokevirtual 172, 3) := by decide +kernel
theorem dX8_readWire_59 : decode cX8_readWire 59 = .ok (.iadd, 1) := by decide +kernel
theorem dX8_readWire_60 : decode cX8_readWire 60 = .ok (.istore 6, 2) := by decide +kernel
theorem dX8_readWire_62 : decode cX8_readWire 62 = .ok (.aload_n 0, 1) := by decide +kernel
theorem dX8_readWire_63 : decode cX8_readWire 63 = .ok (.aload_n 0, 1) := by decide +kernel
theorem dX8_readWire_64 : decode cX8_readWire 64 = .ok (.getfield 160, 3) := by decide +kernel
theorem dX8_readWire_67 : decode cX8_readWire 67 = .ok (.ifCond .eq 42, 3) := by decide +kernel
theorem dX8_readWire_70 : decode cX8_readWire 70 = .ok (.iload_n 1, 1) := by decide +kernel
theorem dX8_readWire_71 : decode cX8_readWire 71 = .ok (.aload_n 0, 1) := by decide +kernel
theorem dX8_readWire_72 : decode cX8_readWire 72 = .ok (.getfield 13, 3) := by decide +kernel
theorem dX8_readWire_75 : decode cX8_readWire 75 = .ok (.iconst 0, 1) := by decide +kernel
theorem dX8_readWire_76 : decode cX8_readWire 76 = .ok (.iaload, 1) := by decide +kernel
theorem dX8_readWire_77 : decode cX8_readWire 77 = .ok (.if_icmp .ge 32, 3) := by decide +kernel
theorem dX8_readWire_80 : decode cX8_readWire 80 = .ok (.iload_n 2, 1) := by decide +kernel
theorem dX8_readWire_81 : decode cX8_readWire 81 = .ok (.aload_n 0, 1) := by decide +kernel
theorem dX8_readWire_82 : decode cX8_readWire 82 = .ok (.getfield 13, 3) := by decide +kernel
theorem dX8_readWire_85 : decode cX8_readWire 85 = .ok (.iconst 0, 1) := by decide +kernel
theorem dX8_readWire_86 : decode cX8_readWire 86 = .ok (.iaload, 1) := by decide +kernel
theorem dX8_readWire_87 : decode cX8_readWire 87 = .ok (.if_icmp .ge 22, 3) := by decide +kernel
theorem dX8_readWire_90 : decode cX8_readWire 90 = .ok (.aload_n 0, 1) := by decide +kernel
theorem dX8_readWire_91 : decode cX8_readWire 91 = .ok (.aload_n 0, 1) := by decide +kernel
theorem dX8_readWire_92 : decode cX8_readWire 92 = .ok (.getfield 13, 3) := by decide +kernel
theorem dX8_readWire_95 : decode cX8_readWire 95 = .ok (.iload_n 1, 1) := by decide +kernel
theorem dX8_readWire_96 : decode cX8_readWire 96 = .ok (.iload_n 2, 1) := by decide +kernel
theorem dX8_readWire_97 : decode cX8_readWire 97 = .ok (.iload 6, 2) := by decide +kernel
theorem dX8_readWire_99 : decode cX8_readWire 99 = .ok (.invokevirtual 183, 3) := by decide +kernel
theorem dX8_readWire_102 : decode cX8_readWire 102 = .ok (.ifCond .eq 7, 3) := by decide +kernel
theorem dX8_readWire_105 : decode cX8_readWire 105 = .ok (.iconst 1, 1) := by decide +kernel
theorem dX8_readWire_106 : decode cX8_readWire 106 = .ok (.goto 4, 3) := by decide +kernel
theorem dX8_readWire_109 : decode cX8_readWire 109 = .ok (.iconst 0, 1) := by decide +kernel
theorem dX8_readWire_110 : decode cX8_readWire 110 = .ok (.invokevirtual 175, 3) := by decide +kernel
theorem dX8_readWire_113 : decode cX8_readWire 113 = .ok (.ifCond .eq 17, 3) := by decide +kernel
theorem dX8_readWire_116 : decode cX8_readWire 116 = .ok (.aload_n 0, 1) := by decide +kernel
theorem dX8_readWire_117 : decode cX8_readWire 117 = .ok (.getfield 13, 3) := by decide +kernel
theorem dX8_readWire_120 : decode cX8_readWire 120 = .ok (.iload_n 1, 1) := by decide +kernel
theorem dX8_readWire_121 : decode cX8_readWire 121 = .ok (.iload_n 2, 1) := by decide +kernel
theorem dX8_readWire_122 : decode cX8_readWire 122 = .ok (.iload_n 3, 1) := by decide +kernel
theorem dX8_readWire_123 : decode cX8_readWire 123 = .ok (.iload 4, 2) := by decide +kernel
theorem dX8_readWire_125 : decode cX8_readWire 125 = .ok (.iload 6, 2) := by decide +kernel
theorem dX8_readWire_127 : decode cX8_readWire 127 = .ok (.invokestatic 187, 3) := by decide +kernel
theorem dX8_readWire_130 : decode cX8_readWire 130 = .ok (.return_, 1) := by decide +kernel
theorem dX8_readCut_0 : decode cX8_readCut 0 = .ok (.aload_n 0, 1) := by decide +kernel
theorem dX8_readCut_1 : decode cX8_readCut 1 = .ok (.iconst 1, 1) := by decide +kernel
theorem dX8_readCut_2 : decode cX8_readCut 2 = .ok (.invokevirtual 165, 3) := by decide +kernel
theorem dX8_readCut_5 : decode cX8_readCut 5 = .ok (.aload_n 0, 1) := by decide +kernel
theorem dX8_readCut_6 : decode cX8_readCut 6 = .ok (.iconst 0, 1) := by decide +kernel
theorem dX8_readCut_7 : decode cX8_readCut 7 = .ok (.iconst 1, 1) := by decide +kernel
theorem dX8_readCut_8 : decode cX8_readCut 8 = .ok (.invokevirtual 172, 3) := by decide +kernel
theorem dX8_readCut_11 : decode cX8_readCut 11 = .ok (.istore_n 1, 1) := by decide +kernel
theorem dX8_readCut_12 : decode cX8_readCut 12 = .ok (.bipush 10, 2) := by decide +kernel
theorem dX8_readCut_14 : decode cX8_readCut 14 = .ok (.iload_n 1, 1) := by decide +kernel
theorem dX8_readCut_15 : decode cX8_readCut 15 = .ok (.imul, 1) := by decide +kernel
theorem dX8_readCut_16 : decode cX8_readCut 16 = .ok (.aload_n 0, 1) := by decide +kernel
theorem dX8_readCut_17 : decode cX8_readCut 17 = .ok (.iconst 0, 1) := by decide +kernel
theorem dX8_readCut_18 : decode cX8_readCut 18 = .ok (.iload_n 1, 1) := by decide +kernel
theorem dX8_readCut_19 : decode cX8_readCut 19 = .ok (.iconst 1, 1) := by decide +kernel
theorem dX8_readCut_20 : decode cX8_readCut 20 = .ok (.if_icmp .ne 7, 3) := by decide +kernel
theorem dX8_readCut_23 : decode cX8_readCut 23 = .ok (.iconst 3, 1) := by decide +kernel
theorem dX8_readCut_24 : decode cX8_readCut 24 = .ok (.goto 5, 3) := by decide +kernel
theorem dX8_readCut_27 : decode cX8_readCut 27 = .ok (.bipush 9, 2) := by decide +kernel
theorem dX8_readCut_29 : decode cX8_readCut 29 = .ok (.invokevirtual 172, 3) := by decide +kernel
theorem dX8_readCut_32 : decode cX8_readCut 32 = .ok (.iadd, 1) := by decide +kernel
theorem dX8_readCut_33 : decode cX8_readCut 33 = .ok (.istore_n 2, 1) := by decide +kernel
theorem dX8_readCut_34 : decode cX8_readCut 34 = .ok (.aload_n 0, 1) := by decide +kernel
theorem dX8_readCut_35 : decode cX8_readCut 35 = .ok (.iload_n 2, 1) := by decide +kernel
theorem dX8_readCut_36 : decode cX8_readCut 36 = .ok (.aload_n 0, 1) := by decide +kernel
theorem dX8_readCut_37 : decode cX8_readCut 37 = .ok (.getfield 13, 3) := by decide +kernel
theorem dX8_readCut_40 : decode cX8_readCut 40 = .ok (.iconst 1, 1) := by decide +kernel
theorem dX8_readCut_41 : decode cX8_readCut 41 = .ok (.iaload, 1) := by decide +kernel
theorem dX8_readCut_42 : decode cX8_readCut 42 = .ok (.if_icmp .ge 7, 3) := by decide +kernel
theorem dX8_readCut_45 : decode cX8_readCut 45 = .ok (.iconst 1, 1) := by decide +kernel
theorem dX8_readCut_46 : decode cX8_readCut 46 = .ok (.goto 4, 3) := by decide +kernel
theorem dX8_readCut_49 : decode cX8_readCut 49 = .ok (.iconst 0, 1) := by decide +kernel
theorem dX8_readCut_50 : decode cX8_readCut 50 = .ok (.invokevirtual 175, 3) := by decide +kernel
theorem dX8_readCut_53 : decode cX8_readCut 53 = .ok (.ifCond .eq 11, 3) := by decide +kernel
theorem dX8_readCut_56 : decode cX8_readCut 56 = .ok (.aload_n 0, 1) := by decide +kernel
theorem dX8_readCut_57 : decode cX8_readCut 57 = .ok (.getfield 13, 3) := by decide +kernel
theorem dX8_readCut_60 : decode cX8_readCut 60 = .ok (.iload_n 2, 1) := by decide +kernel
theorem dX8_readCut_61 : decode cX8_readCut 61 = .ok (.invokestatic 191, 3) := by decide +kernel
theorem dX8_readCut_64 : decode cX8_readCut 64 = .ok (.return_, 1) := by decide +kernel
theorem dX8_readWork_0 : decode cX8_readWork 0 = .ok (.aload_n 0, 1) := by decide +kernel
theorem dX8_readWork_1 : decode cX8_readWork 1 = .ok (.iconst 1, 1) := by decide +kernel
theorem dX8_readWork_2 : decode cX8_readWork 2 = .ok (.invokevirtual 165, 3) := by decide +kernel
theorem dX8_readWork_5 : decode cX8_readWork 5 = .ok (.aload_n 0, 1) := by decide +kernel
theorem dX8_readWork_6 : decode cX8_readWork 6 = .ok (.iconst 0, 1) := by decide +kernel
theorem dX8_readWork_7 : decode cX8_readWork 7 = .ok (.bipush 7, 2) := by decide +kernel
theorem dX8_readWork_9 : decode cX8_readWork 9 = .ok (.invokevirtual 172, 3) := by decide +kernel
theorem dX8_readWork_12 : decode cX8_readWork 12 = .ok (.istore_n 1, 1) := by decide +kernel
theorem dX8_readWork_13 : decode cX8_readWork 13 = .ok (.aload_n 0, 1) := by decide +kernel
theorem dX8_readWork_14 : decode cX8_readWork 14 = .ok (.iload_n 1, 1) := by decide +kernel
theorem dX8_readWork_15 : decode cX8_readWork 15 = .ok (.aload_n 0, 1) := by decide +kernel
theorem dX8_readWork_16 : decode cX8_readWork 16 = .ok (.getfield 13, 3) := by decide +kernel
theorem dX8_readWork_19 : decode cX8_readWork 19 = .ok (.iconst 0, 1) := by decide +kernel
theorem dX8_readWork_20 : decode cX8_readWork 20 = .ok (.iaload, 1) := by decide +kernel
theorem dX8_readWork_21 : decode cX8_readWork 21 = .ok (.if_icmp .ge 18, 3) := by decide +kernel
theorem dX8_readWork_24 : decode cX8_readWork 24 = .ok (.aload_n 0, 1) := by decide +kernel
theorem dX8_readWork_25 : decode cX8_readWork 25 = .ok (.getfield 13, 3) := by decide +kernel
theorem dX8_readWork_28 : decode cX8_readWork 28 = .ok (.iload_n 1, 1) := by decide +kernel
theorem dX8_readWork_29 : decode cX8_readWork 29 = .ok (.invokestatic 106, 3) := by decide +kernel
theorem dX8_readWork_32 : decode cX8_readWork 32 = .ok (.ifCond .eq 7, 3) := by decide +kernel
theorem dX8_readWork_35 : decode cX8_readWork 35 = .ok (.iconst 1, 1) := by decide +kernel
theorem dX8_readWork_36 : decode cX8_readWork 36 = .ok (.goto 4, 3) := by decide +kernel
theorem dX8_readWork_39 : decode cX8_readWork 39 = .ok (.iconst 0, 1) := by decide +kernel
theorem dX8_readWork_40 : decode cX8_readWork 40 = .ok (.invokevirtual 175, 3) := by decide +kernel
theorem dX8_readWork_43 : decode cX8_readWork 43 = .ok (.ifCond .eq 11, 3) := by decide +kernel
theorem dX8_readWork_46 : decode cX8_readWork 46 = .ok (.aload_n 0, 1) := by decide +kernel
theorem dX8_readWork_47 : decode cX8_readWork 47 = .ok (.getfield 13, 3) := by decide +kernel
theorem dX8_readWork_50 : decode cX8_readWork 50 = .ok (.iload_n 1, 1) := by decide +kernel
theorem dX8_readWork_51 : decode cX8_readWork 51 = .ok (.invokestatic 124, 3) := by decide +kernel
theorem dX8_readWork_54 : decode cX8_readWork 54 = .ok (.return_, 1) := by decide +kernel
theorem dX8_readCommand_0 : decode cX8_readCommand 0 = .ok (.aload_n 0, 1) := by decide +kernel
theorem dX8_readCommand_1 : decode cX8_readCommand 1 = .ok (.bipush 109, 2) := by decide +kernel
theorem dX8_readCommand_3 : decode cX8_readCommand 3 = .ok (.invokevirtual 194, 3) := by decide +kernel
theorem dX8_readCommand_6 : decode cX8_readCommand 6 = .ok (.ifCond .eq 10, 3) := by decide +kernel
theorem dX8_readCommand_9 : decode cX8_readCommand 9 = .ok (.aload_n 0, 1) := by decide +kernel
theorem dX8_readCommand_10 : decode cX8_readCommand 10 = .ok (.invokevirtual 197, 3) := by decide +kernel
theorem dX8_readCommand_13 : decode cX8_readCommand 13 = .ok (.goto 56, 3) := by decide +kernel
theorem dX8_readCommand_16 : decode cX8_readCommand 16 = .ok (.aload_n 0, 1) := by decide +kernel
theorem dX8_readCommand_17 : decode cX8_readCommand 17 = .ok (.bipush 119, 2) := by decide +kernel
theorem dX8_readCommand_19 : decode cX8_readCommand 19 = .ok (.invokevirtual 194, 3) := by decide +kernel
theorem dX8_readCommand_22 : decode cX8_readCommand 22 = .ok (.ifCond .eq 10, 3) := by decide +kernel
theorem dX8_readCommand_25 : decode cX8_readCommand 25 = .ok (.aload_n 0, 1) := by decide +kernel
theorem dX8_readCommand_26 : decode cX8_readCommand 26 = .ok (.invokevirtual 200, 3) := by decide +kernel
theorem dX8_readCommand_29 : decode cX8_readCommand 29 = .ok (.goto 40, 3) := by decide +kernel
theorem dX8_readCommand_32 : decode cX8_readCommand 32 = .ok (.aload_n 0, 1) := by decide +kernel
theorem dX8_readCommand_33 : decode cX8_readCommand 33 = .ok (.bipush 99, 2) := by decide +kernel
theorem dX8_readCommand_35 : decode cX8_readCommand 35 = .ok (.invokevirtual 194, 3) := by decide +kernel
theorem dX8_readCommand_38 : decode cX8_readCommand 38 = .ok (.ifCond .eq 10, 3) := by decide +kernel
theorem dX8_readCommand_41 : decode cX8_readCommand 41 = .ok (.aload_n 0, 1) := by decide +kernel
theorem dX8_readCommand_42 : decode cX8_readCommand 42 = .ok (.invokevirtual 203, 3) := by decide +kernel
theorem dX8_readCommand_45 : decode cX8_readCommand 45 = .ok (.goto 24, 3) := by decide +kernel
theorem dX8_readCommand_48 : decode cX8_readCommand 48 = .ok (.aload_n 0, 1) := by decide +kernel
theorem dX8_readCommand_49 : decode cX8_readCommand 49 = .ok (.bipush 102, 2) := by decide +kernel
theorem dX8_readCommand_51 : decode cX8_readCommand 51 = .ok (.invokevirtual 194, 3) := by decide +kernel
theorem dX8_readCommand_54 : decode cX8_readCommand 54 = .ok (.ifCond .eq 10, 3) := by decide +kernel
theorem dX8_readCommand_57 : decode cX8_readCommand 57 = .ok (.aload_n 0, 1) := by decide +kernel
theorem dX8_readCommand_58 : decode cX8_readCommand 58 = .ok (.invokevirtual 206, 3) := by decide +kernel
theorem dX8_readCommand_61 : decode cX8_readCommand 61 = .ok (.goto 8, 3) := by decide +kernel
theorem dX8_readCommand_64 : decode cX8_readCommand 64 = .ok (.aload_n 0, 1) := by decide +kernel
theorem dX8_readCommand_65 : decode cX8_readCommand 65 = .ok (.iconst 0, 1) := by decide +kernel
theorem dX8_readCommand_66 : decode cX8_readCommand 66 = .ok (.invokevirtual 165, 3) := by decide +kernel
theorem dX8_readCommand_69 : decode cX8_readCommand 69 = .ok (.return_, 1) := by decide +kernel
theorem dX8_readText_0 : decode cX8_readText 0 = .ok (.aload_n 0, 1) := by decide +kernel
theorem dX8_readText_1 : decode cX8_readText 1 = .ok (.iconst 0, 1) := by decide +kernel
theorem dX8_readText_2 : decode cX8_readText 2 = .ok (.putfield 157, 3) := by decide +kernel
theorem dX8_readText_5 : decode cX8_readText 5 = .ok (.aload_n 0, 1) := by decide +kernel
theorem dX8_readText_6 : decode cX8_readText 6 = .ok (.iconst 1, 1) := by decide +kernel
theorem dX8_readText_7 : decode cX8_readText 7 = .ok (.putfield 160, 3) := by decide +kernel
theorem dX8_readText_10 : decode cX8_readText 10 = .ok (.aload_n 0, 1) := by decide +kernel
theorem dX8_readText_11 : decode cX8_readText 11 = .ok (.iconst 0, 1) := by decide +kernel
theorem dX8_readText_12 : decode cX8_readText 12 = .ok (.putfield 169, 3) := by decide +kernel
theorem dX8_readText_15 : decode cX8_readText 15 = .ok (.iconst 0, 1) := by decide +kernel
theorem dX8_readText_16 : decode cX8_readText 16 = .ok (.istore_n 1, 1) := by decide +kernel
theorem dX8_readText_17 : decode cX8_readText 17 = .ok (.iload_n 1, 1) := by decide +kernel
theorem dX8_readText_18 : decode cX8_readText 18 = .ok (.bipush 96, 2) := by decide +kernel
theorem dX8_readText_20 : decode cX8_readText 20 = .ok (.if_icmp .ge 16, 3) := by decide +kernel
theorem dX8_readText_23 : decode cX8_readText 23 = .ok (.aload_n 0, 1) := by decide +kernel
theorem dX8_readText_24 : decode cX8_readText 24 = .ok (.getfield 13, 3) := by decide +kernel
theorem dX8_readText_27 : decode cX8_readText 27 = .ok (.iload_n 1, 1) := by decide +kernel
theorem dX8_readText_28 : decode cX8_readText 28 = .ok (.iconst 0, 1) := by decide +kernel
theorem dX8_readText_29 : decode cX8_readText 29 = .ok (.iastore, 1) := by decide +kernel
theorem dX8_readText_30 : decode cX8_readText 30 = .ok (.iinc 1 1, 3) := by decide +kernel
theorem dX8_readText_33 : decode cX8_readText 33 = .ok (.goto (-16), 3) := by decide +kernel
theorem dX8_readText_36 : decode cX8_readText 36 = .ok (.aload_n 0, 1) := by decide +kernel
theorem dX8_readText_37 : decode cX8_readText 37 = .ok (.aload_n 0, 1) := by decide +kernel
theorem dX8_readText_38 : decode cX8_readText 38 = .ok (.bipush 77, 2) := by decide +kernel
theorem dX8_readText_40 : decode cX8_readText 40 = .ok (.invokevirtual 194, 3) := by decide +kernel
theorem dX8_readText_43 : decode cX8_readText 43 = .ok (.invokevirtual 165, 3) := by decide +kernel
theorem dX8_readText_46 : decode cX8_readText 46 = .ok (.aload_n 0, 1) := by decide +kernel
theorem dX8_readText_47 : decode cX8_readText 47 = .ok (.getfield 160, 3) := by decide +kernel
theorem dX8_readText_50 : decode cX8_readText 50 = .ok (.ifCond .eq 21, 3) := by decide +kernel
theorem dX8_readText_53 : decode cX8_readText 53 = .ok (.aload_n 0, 1) := by decide +kernel
theorem dX8_readText_54 : decode cX8_readText 54 = .ok (.getfield 157, 3) := by decide +kernel
theorem dX8_readText_57 : decode cX8_readText 57 = .ok (.aload_n 0, 1) := by decide +kernel
theorem dX8_readText_58 : decode cX8_readText 58 = .ok (.getfield 150, 3) := by decide +kernel
theorem dX8_readText_61 : decode cX8_readText 61 = .ok (.if_icmp .ge 10, 3) := by decide +kernel
theorem dX8_readText_64 : decode cX8_readText 64 = .ok (.aload_n 0, 1) := by decide +kernel
theorem dX8_readText_65 : decode cX8_readText 65 = .ok (.invokevirtual 209, 3) := by decide +kernel
theorem dX8_readText_68 : decode cX8_readText 68 = .ok (.goto (-22), 3) := by decide +kernel
theorem dX8_readText_71 : decode cX8_readText 71 = .ok (.aload_n 0, 1) := by decide +kernel
theorem dX8_readText_72 : decode cX8_readText 72 = .ok (.getfield 160, 3) := by decide +kernel
theorem dX8_readText_75 : decode cX8_readText 75 = .ok (.ifCond .eq 7, 3) := by decide +kernel
theorem dX8_readText_78 : decode cX8_readText 78 = .ok (.iconst (-1), 1) := by decide +kernel
theorem dX8_readText_79 : decode cX8_readText 79 = .ok (.goto 7, 3) := by decide +kernel
theorem dX8_readText_82 : decode cX8_readText 82 = .ok (.aload_n 0, 1) := by decide +kernel
theorem dX8_readText_83 : decode cX8_readText 83 = .ok (.getfield 157, 3) := by decide +kernel
theorem dX8_readText_86 : decode cX8_readText 86 = .ok (.ireturn, 1) := by decide +kernel
theorem dX8_errorPosition_0 : decode cX8_errorPosition 0 = .ok (.aload_n 0, 1) := by decide +kernel
theorem dX8_errorPosition_1 : decode cX8_errorPosition 1 = .ok (.iconst 0, 1) := by decide +kernel
theorem dX8_errorPosition_2 : decode cX8_errorPosition 2 = .ok (.putfield 60, 3) := by decide +kernel
theorem dX8_errorPosition_5 : decode cX8_errorPosition 5 = .ok (.aload_n 0, 1) := by decide +kernel
theorem dX8_errorPosition_6 : decode cX8_errorPosition 6 = .ok (.invokevirtual 212, 3) := by decide +kernel
theorem dX8_errorPosition_9 : decode cX8_errorPosition 9 = .ok (.ireturn, 1) := by decide +kernel
theorem dX8_load_0 : decode cX8_load 0 = .ok (.aload_n 0, 1) := by decide +kernel
theorem dX8_load_1 : decode cX8_load 1 = .ok (.aload_n 0, 1) := by decide +kernel
theorem dX8_load_2 : decode cX8_load 2 = .ok (.invokevirtual 212, 3) := by decide +kernel
theorem dX8_load_5 : decode cX8_load 5 = .ok (.iconst (-1), 1) := by decide +kernel
theorem dX8_load_6 : decode cX8_load 6 = .ok (.if_icmp .ne 7, 3) := by decide +kernel
theorem dX8_load_9 : decode cX8_load 9 = .ok (.iconst 0, 1) := by decide +kernel
theorem dX8_load_10 : decode cX8_load 10 = .ok (.goto 4, 3) := by decide +kernel
theorem dX8_load_13 : decode cX8_load 13 = .ok (.iconst 1, 1) := by decide +kernel
theorem dX8_load_14 : decode cX8_load 14 = .ok (.invokevirtual 153, 3) := by decide +kernel
theorem dX8_load_17 : decode cX8_load 17 = .ok (.ifCond .eq 5, 3) := by decide +kernel
theorem dX8_load_20 : decode cX8_load 20 = .ok (.iconst 0, 1) := by decide +kernel
theorem dX8_load_21 : decode cX8_load 21 = .ok (.ireturn, 1) := by decide +kernel
theorem dX8_load_22 : decode cX8_load 22 = .ok (.aload_n 0, 1) := by decide +kernel
theorem dX8_load_23 : decode cX8_load 23 = .ok (.getfield 13, 3) := by decide +kernel
theorem dX8_load_26 : decode cX8_load 26 = .ok (.iconst 0, 1) := by decide +kernel
theorem dX8_load_27 : decode cX8_load 27 = .ok (.aload_n 0, 1) := by decide +kernel
theorem dX8_load_28 : decode cX8_load 28 = .ok (.getfield 16, 3) := by decide +kernel
theorem dX8_load_31 : decode cX8_load 31 = .ok (.iconst 0, 1) := by decide +kernel
theorem dX8_load_32 : decode cX8_load 32 = .ok (.bipush 96, 2) := by decide +kernel
theorem dX8_load_34 : decode cX8_load 34 = .ok (.invokestatic 69, 3) := by decide +kernel
theorem dX8_load_37 : decode cX8_load 37 = .ok (.aload_n 0, 1) := by decide +kernel
theorem dX8_load_38 : decode cX8_load 38 = .ok (.iconst 0, 1) := by decide +kernel
theorem dX8_load_39 : decode cX8_load 39 = .ok (.putfield 66, 3) := by decide +kernel
theorem dX8_load_42 : decode cX8_load 42 = .ok (.aload_n 0, 1) := by decide +kernel
theorem dX8_load_43 : decode cX8_load 43 = .ok (.getfield 28, 3) := by decide +kernel
theorem dX8_load_46 : decode cX8_load 46 = .ok (.iconst 0, 1) := by decide +kernel
theorem dX8_load_47 : decode cX8_load 47 = .ok (.iconst 0, 1) := by decide +kernel
theorem dX8_load_48 : decode cX8_load 48 = .ok (.bastore, 1) := by decide +kernel
theorem dX8_load_49 : decode cX8_load 49 = .ok (.aload_n 0, 1) := by decide +kernel
theorem dX8_load_50 : decode cX8_load 50 = .ok (.getfield 28, 3) := by decide +kernel
theorem dX8_load_53 : decode cX8_load 53 = .ok (.iconst 1, 1) := by decide +kernel
theorem dX8_load_54 : decode cX8_load 54 = .ok (.iconst 0, 1) := by decide +kernel
theorem dX8_load_55 : decode cX8_load 55 = .ok (.bastore, 1) := by decide +kernel
theorem dX8_load_56 : decode cX8_load 56 = .ok (.aload_n 0, 1) := by decide +kernel
theorem dX8_load_57 : decode cX8_load 57 = .ok (.getfield 169, 3) := by decide +kernel
theorem dX8_load_60 : decode cX8_load 60 = .ok (.ireturn, 1) := by decide +kernel
theorem dX8_workers_0 : decode cX8_workers 0 = .ok (.iconst 0, 1) := by decide +kernel
theorem dX8_workers_1 : decode cX8_workers 1 = .ok (.istore_n 1, 1) := by decide +kernel
theorem dX8_workers_2 : decode cX8_workers 2 = .ok (.iconst 0, 1) := by decide +kernel
theorem dX8_workers_3 : decode cX8_workers 3 = .ok (.istore_n 2, 1) := by decide +kernel
theorem dX8_workers_4 : decode cX8_workers 4 = .ok (.iload_n 2, 1) := by decide +kernel
theorem dX8_workers_5 : decode cX8_workers 5 = .ok (.aload_n 0, 1) := by decide +kernel
theorem dX8_workers_6 : decode cX8_workers 6 = .ok (.getfield 16, 3) := by decide +kernel
theorem dX8_workers_9 : decode cX8_workers 9 = .ok (.iconst 0, 1) := by decide +kernel
theorem dX8_workers_10 : decode cX8_workers 10 = .ok (.iaload, 1) := by decide +kernel
theorem dX8_workers_11 : decode cX8_workers 11 = .ok (.if_icmp .ge 30, 3) := by decide +kernel
theorem dX8_workers_14 : decode cX8_workers 14 = .ok (.iload_n 1, 1) := by decide +kernel
theorem dX8_workers_15 : decode cX8_workers 15 = .ok (.aload_n 0, 1) := by decide +kernel
theorem dX8_workers_16 : decode cX8_workers 16 = .ok (.getfield 16, 3) := by decide +kernel
theorem dX8_workers_19 : decode cX8_workers 19 = .ok (.iload_n 2, 1) := by decide +kernel
theorem dX8_workers_20 : decode cX8_workers 20 = .ok (.invokestatic 106, 3) := by decide +kernel
theorem dX8_workers_23 : decode cX8_workers 23 = .ok (.ifCond .eq 9, 3) := by decide +kernel
theorem dX8_workers_26 : decode cX8_workers 26 = .ok (.iconst 1, 1) := by decide +kernel
theorem dX8_workers_27 : decode cX8_workers 27 = .ok (.iload_n 2, 1) := by decide +kernel
theorem dX8_workers_28 : decode cX8_workers 28 = .ok (.ishl, 1) := by decide +kernel
theorem dX8_workers_29 : decode cX8_workers 29 = .ok (.goto 4, 3) := by decide +kernel
theorem dX8_workers_32 : decode cX8_workers 32 = .ok (.iconst 0, 1) := by decide +kernel
theorem dX8_workers_33 : decode cX8_workers 33 = .ok (.ior, 1) := by decide +kernel
theorem dX8_workers_34 : decode cX8_workers 34 = .ok (.istore_n 1, 1) := by decide +kernel
theorem dX8_workers_35 : decode cX8_workers 35 = .ok (.iinc 2 1, 3) := by decide +kernel
theorem dX8_workers_38 : decode cX8_workers 38 = .ok (.goto (-34), 3) := by decide +kernel
theorem dX8_workers_41 : decode cX8_workers 41 = .ok (.iload_n 1, 1) := by decide +kernel
theorem dX8_workers_42 : decode cX8_workers 42 = .ok (.ireturn, 1) := by decide +kernel
theorem dX8_loopers_0 : decode cX8_loopers 0 = .ok (.aload_n 0, 1) := by decide +kernel
theorem dX8_loopers_1 : decode cX8_loopers 1 = .ok (.aload_n 0, 1) := by decide +kernel
theorem dX8_loopers_2 : decode cX8_loopers 2 = .ok (.getfield 16, 3) := by decide +kernel
theorem dX8_loopers_5 : decode cX8_loopers 5 = .ok (.sipush 999, 3) := by decide +kernel
theorem dX8_loopers_8 : decode cX8_loopers 8 = .ok (.invokevirtual 81, 3) := by decide +kernel
theorem dX8_loopers_11 : decode cX8_loopers 11 = .ok (.iconst 0, 1) := by decide +kernel
theorem dX8_loopers_12 : decode cX8_loopers 12 = .ok (.istore_n 1, 1) := by decide +kernel
theorem dX8_loopers_13 : decode cX8_loopers 13 = .ok (.iconst 0, 1) := by decide +kernel
theorem dX8_loopers_14 : decode cX8_loopers 14 = .ok (.istore_n 2, 1) := by decide +kernel
theorem dX8_loopers_15 : decode cX8_loopers 15 = .ok (.iload_n 2, 1) := by decide +kernel
theorem dX8_loopers_16 : decode cX8_loopers 16 = .ok (.aload_n 0, 1) := by decide +kernel
theorem dX8_loopers_17 : decode cX8_loopers 17 = .ok (.getfield 16, 3) := by decide +kernel
theorem dX8_loopers_20 : decode cX8_loopers 20 = .ok (.iconst 0, 1) := by decide +kernel
theorem dX8_loopers_21 : decode cX8_loopers 21 = .ok (.iaload, 1) := by decide +kernel
theorem dX8_loopers_22 : decode cX8_loopers 22 = .ok (.if_icmp .ge 33, 3) := by decide +kernel
theorem dX8_loopers_25 : decode cX8_loopers 25 = .ok (.iload_n 1, 1) := by decide +kernel
theorem dX8_loopers_26 : decode cX8_loopers 26 = .ok (.aload_n 0, 1) := by decide +kernel
theorem dX8_loopers_27 : decode cX8_loopers 27 = .ok (.getfield 54, 3) := by decide +kernel
theorem dX8_loopers_30 : decode cX8_loopers 30 = .ok (.bipush 9, 2) := by decide +kernel
theorem dX8_loopers_32 : decode cX8_loopers 32 = .ok (.iload_n 2, 1) := by decide +kernel
theorem dX8_loopers_33 : decode cX8_loopers 33 = .ok (.imul, 1) := by decide +kernel
theorem dX8_loopers_34 : decode cX8_loopers 34 = .ok (.iaload, 1) := by decide +kernel
theorem dX8_loopers_35 : decode cX8_loopers 35 = .ok (.ldc 80, 2) := by decide +kernel
theorem dX8_loopers_37 : decode cX8_loopers 37 = .ok (.if_icmp .ge 9, 3) := by decide +kernel
theorem dX8_loopers_40 : decode cX8_loopers 40 = .ok (.iconst 1, 1) := by decide +kernel
theorem dX8_loopers_41 : decode cX8_loopers 41 = .ok (.iload_n 2, 1) := by decide +kernel
theorem dX8_loopers_42 : decode cX8_loopers 42 = .ok (.ishl, 1) := by decide +kernel
theorem dX8_loopers_43 : decode cX8_loopers 43 = .ok (.goto 4, 3) := by decide +kernel
theorem dX8_loopers_46 : decode cX8_loopers 46 = .ok (.iconst 0, 1) := by decide +kernel
theorem dX8_loopers_47 : decode cX8_loopers 47 = .ok (.ior, 1) := by decide +kernel
theorem dX8_loopers_48 : decode cX8_loopers 48 = .ok (.istore_n 1, 1) := by decide +kernel
theorem dX8_loopers_49 : decode cX8_loopers 49 = .ok (.iinc 2 1, 3) := by decide +kernel
theorem dX8_loopers_52 : decode cX8_loopers 52 = .ok (.goto (-37), 3) := by decide +kernel
theorem dX8_loopers_55 : decode cX8_loopers 55 = .ok (.iload_n 1, 1) := by decide +kernel
theorem dX8_loopers_56 : decode cX8_loopers 56 = .ok (.ireturn, 1) := by decide +kernel
theorem dX8_about_0 : decode cX8_about 0 = .ok (.aload_n 0, 1) := by decide +kernel
theorem dX8_about_1 : decode cX8_about 1 = .ok (.iload_n 1, 1) := by decide +kernel
theorem dX8_about_2 : decode cX8_about 2 = .ok (.i2l, 1) := by decide +kernel
theorem dX8_about_3 : decode cX8_about 3 = .ok (.lconst 0, 1) := by decide +kernel
theorem dX8_about_4 : decode cX8_about 4 = .ok (.ldc2_w 216, 3) := by decide +kernel
theorem dX8_about_7 : decode cX8_about 7 = .ok (.invokestatic 146, 3) := by decide +kernel
theorem dX8_about_10 : decode cX8_about 10 = .ok (.ifCond .eq 7, 3) := by decide +kernel
theorem dX8_about_13 : decode cX8_about 13 = .ok (.iconst 0, 1) := by decide +kernel
theorem dX8_about_14 : decode cX8_about 14 = .ok (.goto 4, 3) := by decide +kernel
theorem dX8_about_17 : decode cX8_about 17 = .ok (.iconst 1, 1) := by decide +kernel
theorem dX8_about_18 : decode cX8_about 18 = .ok (.invokevirtual 153, 3) := by decide +kernel
theorem dX8_about_21 : decode cX8_about 21 = .ok (.ifCond .eq 5, 3) := by decide +kernel
theorem dX8_about_24 : decode cX8_about 24 = .ok (.iconst 0, 1) := by decide +kernel
theorem dX8_about_25 : decode cX8_about 25 = .ok (.ireturn, 1) := by decide +kernel
theorem dX8_about_26 : decode cX8_about 26 = .ok (.aload_n 0, 1) := by decide +kernel
theorem dX8_about_27 : decode cX8_about 27 = .ok (.aload_n 0, 1) := by decide +kernel
theorem dX8_about_28 : decode cX8_about 28 = .ok (.getfield 16, 3) := by decide +kernel
theorem dX8_about_31 : decode cX8_about 31 = .ok (.invokevirtual 134, 3) := by decide +kernel
theorem dX8_about_34 : decode cX8_about 34 = .ok (.istore_n 2, 1) := by decide +kernel
theorem dX8_about_35 : decode cX8_about 35 = .ok (.iload_n 1, 1) := by decide +kernel
theorem dX8_about_36 : decode cX8_about 36 = .ok (.tableswitch 104 0 7 #[48, 48, 55, 63, 71, 81, 86, 99], 48) := by decide +kernel
theorem dX8_about_84 : decode cX8_about 84 = .ok (.aload_n 0, 1) := by decide +kernel
theorem dX8_about_85 : decode cX8_about 85 = .ok (.getfield 16, 3) := by decide +kernel
theorem dX8_about_88 : decode cX8_about 88 = .ok (.iload_n 1, 1) := by decide +kernel
theorem dX8_about_89 : decode cX8_about 89 = .ok (.iaload, 1) := by decide +kernel
theorem dX8_about_90 : decode cX8_about 90 = .ok (.ireturn, 1) := by decide +kernel
theorem dX8_about_91 : decode cX8_about 91 = .ok (.aload_n 0, 1) := by decide +kernel
theorem dX8_about_92 : decode cX8_about 92 = .ok (.getfield 16, 3) := by decide +kernel
theorem dX8_about_95 : decode cX8_about 95 = .ok (.invokestatic 218, 3) := by decide +kernel
theorem dX8_about_98 : decode cX8_about 98 = .ok (.ireturn, 1) := by decide +kernel
theorem dX8_about_99 : decode cX8_about 99 = .ok (.aload_n 0, 1) := by decide +kernel
theorem dX8_about_100 : decode cX8_about 100 = .ok (.getfield 16, 3) := by decide +kernel
theorem dX8_about_103 : decode cX8_about 103 = .ok (.invokestatic 222, 3) := by decide +kernel
theorem dX8_about_106 : decode cX8_about 106 = .ok (.ireturn, 1) := by decide +kernel
theorem dX8_about_107 : decode cX8_about 107 = .ok (.iload_n 2, 1) := by decide +kernel
theorem dX8_about_108 : decode cX8_about 108 = .ok (.ifCond .eq 7, 3) := by decide +kernel
theorem dX8_about_111 : decode cX8_about 111 = .ok (.iconst 1, 1) := by decide +kernel
theorem dX8_about_112 : decode cX8_about 112 = .ok (.goto 4, 3) := by decide +kernel
theorem dX8_about_115 : decode cX8_about 115 = .ok (.iconst 0, 1) := by decide +kernel
theorem dX8_about_116 : decode cX8_about 116 = .ok (.ireturn, 1) := by decide +kernel
theorem dX8_about_117 : decode cX8_about 117 = .ok (.aload_n 0, 1) := by decide +kernel
theorem dX8_about_118 : decode cX8_about 118 = .ok (.getfield 93, 3) := by decide +kernel
theorem dX8_about_121 : decode cX8_about 121 = .ok (.ireturn, 1) := by decide +kernel
theorem dX8_about_122 : decode cX8_about 122 = .ok (.iload_n 2, 1) := by decide +kernel
theorem dX8_about_123 : decode cX8_about 123 = .ok (.ifCond .eq 10, 3) := by decide +kernel
theorem dX8_about_126 : decode cX8_about 126 = .ok (.aload_n 0, 1) := by decide +kernel
theorem dX8_about_127 : decode cX8_about 127 = .ok (.invokevirtual 225, 3) := by decide +kernel
theorem dX8_about_130 : decode cX8_about 130 = .ok (.goto 4, 3) := by decide +kernel
theorem dX8_about_133 : decode cX8_about 133 = .ok (.iconst (-1), 1) := by decide +kernel
theorem dX8_about_134 : decode cX8_about 134 = .ok (.ireturn, 1) := by decide +kernel
theorem dX8_about_135 : decode cX8_about 135 = .ok (.aload_n 0, 1) := by decide +kernel
theorem dX8_about_136 : decode cX8_about 136 = .ok (.invokevirtual 228, 3) := by decide +kernel
theorem dX8_about_139 : decode cX8_about 139 = .ok (.ireturn, 1) := by decide +kernel
theorem dX8_about_140 : decode cX8_about 140 = .ok (.aload_n 0, 1) := by decide +kernel
theorem dX8_about_141 : decode cX8_about 141 = .ok (.invokevirtual 231, 3) := by decide +kernel
theorem dX8_about_144 : decode cX8_about 144 = .ok (.ireturn, 1) := by decide +kernel
theorem dX8_isModule_0 : decode cX8_isModule 0 = .ok (.iload_n 1, 1) := by decide +kernel
theorem dX8_isModule_1 : decode cX8_isModule 1 = .ok (.i2l, 1) := by decide +kernel
theorem dX8_isModule_2 : decode cX8_isModule 2 = .ok (.lconst 0, 1) := by decide +kernel
theorem dX8_isModule_3 : decode cX8_isModule 3 = .ok (.aload_n 0, 1) := by decide +kernel
theorem dX8_isModule_4 : decode cX8_isModule 4 = .ok (.getfield 16, 3) := by decide +kernel
theorem dX8_isModule_7 : decode cX8_isModule 7 = .ok (.iconst 0, 1) := by decide +kernel
theorem dX8_isModule_8 : decode cX8_isModule 8 = .ok (.iaload, 1) := by decide +kernel
theorem dX8_isModule_9 : decode cX8_isModule 9 = .ok (.iconst 1, 1) := by decide +kernel
theorem dX8_isModule_10 : decode cX8_isModule 10 = .ok (.isub, 1) := by decide +kernel
theorem dX8_isModule_11 : decode cX8_isModule 11 = .ok (.i2l, 1) := by decide +kernel
theorem dX8_isModule_12 : decode cX8_isModule 12 = .ok (.invokestatic 146, 3) := by decide +kernel
theorem dX8_isModule_15 : decode cX8_isModule 15 = .ok (.ireturn, 1) := by decide +kernel
theorem dX8_wiresOf_0 : decode cX8_wiresOf 0 = .ok (.iconst 0, 1) := by decide +kernel
theorem dX8_wiresOf_1 : decode cX8_wiresOf 1 = .ok (.istore_n 3, 1) := by decide +kernel
theorem dX8_wiresOf_2 : decode cX8_wiresOf 2 = .ok (.iconst 0, 1) := by decide +kernel
theorem dX8_wiresOf_3 : decode cX8_wiresOf 3 = .ok (.istore 4, 2) := by decide +kernel
theorem dX8_wiresOf_5 : decode cX8_wiresOf 5 = .ok (.iload 4, 2) := by decide +kernel
theorem dX8_wiresOf_7 : decode cX8_wiresOf 7 = .ok (.aload_n 0, 1) := by decide +kernel
theorem dX8_wiresOf_8 : decode cX8_wiresOf 8 = .ok (.getfield 16, 3) := by decide +kernel
theorem dX8_wiresOf_11 : decode cX8_wiresOf 11 = .ok (.iconst 1, 1) := by decide +kernel
theorem dX8_wiresOf_12 : decode cX8_wiresOf 12 = .ok (.iaload, 1) := by decide +kernel
theorem dX8_wiresOf_13 : decode cX8_wiresOf 13 = .ok (.if_icmp .ge 32, 3) := by decide +kernel
theorem dX8_wiresOf_16 : decode cX8_wiresOf 16 = .ok (.iload_n 3, 1) := by decide +kernel
theorem dX8_wiresOf_17 : decode cX8_wiresOf 17 = .ok (.aload_n 0, 1) := by decide +kernel
theorem dX8_wiresOf_18 : decode cX8_wiresOf 18 = .ok (.getfield 16, 3) := by decide +kernel
theorem dX8_wiresOf_21 : decode cX8_wiresOf 21 = .ok (.iload 4, 2) := by decide +kernel
theorem dX8_wiresOf_23 : decode cX8_wiresOf 23 = .ok (.iload_n 2, 1) := by decide +kernel
theorem dX8_wiresOf_24 : decode cX8_wiresOf 24 = .ok (.invokestatic 73, 3) := by decide +kernel
theorem dX8_wiresOf_27 : decode cX8_wiresOf 27 = .ok (.iaload, 1) := by decide +kernel
theorem dX8_wiresOf_28 : decode cX8_wiresOf 28 = .ok (.iload_n 1, 1) := by decide +kernel
theorem dX8_wiresOf_29 : decode cX8_wiresOf 29 = .ok (.if_icmp .ne 7, 3) := by decide +kernel
theorem dX8_wiresOf_32 : decode cX8_wiresOf 32 = .ok (.iconst 1, 1) := by decide +kernel
theorem dX8_wiresOf_33 : decode cX8_wiresOf 33 = .ok (.goto 4, 3) := by decide +kernel
theorem dX8_wiresOf_36 : decode cX8_wiresOf 36 = .ok (.iconst 0, 1) := by decide +kernel
theorem dX8_wiresOf_37 : decode cX8_wiresOf 37 = .ok (.iadd, 1) := by decide +kernel
theorem dX8_wiresOf_38 : decode cX8_wiresOf 38 = .ok (.istore_n 3, 1) := by decide +kernel
theorem dX8_wiresOf_39 : decode cX8_wiresOf 39 = .ok (.iinc 4 1, 3) := by decide +kernel
theorem dX8_wiresOf_42 : decode cX8_wiresOf 42 = .ok (.goto (-37), 3) := by decide +kernel
theorem dX8_wiresOf_45 : decode cX8_wiresOf 45 = .ok (.iload_n 3, 1) := by decide +kernel
theorem dX8_wiresOf_46 : decode cX8_wiresOf 46 = .ok (.ireturn, 1) := by decide +kernel
theorem dX8_module_0 : decode cX8_module 0 = .ok (.aload_n 0, 1) := by decide +kernel
theorem dX8_module_1 : decode cX8_module 1 = .ok (.aload_n 0, 1) := by decide +kernel
theorem dX8_module_2 : decode cX8_module 2 = .ok (.iload_n 1, 1) := by decide +kernel
theorem dX8_module_3 : decode cX8_module 3 = .ok (.invokevirtual 234, 3) := by decide +kernel
theorem dX8_module_6 : decode cX8_module 6 = .ok (.ifCond .ne 7, 3) := by decide +kernel
theorem dX8_module_9 : decode cX8_module 9 = .ok (.iconst 1, 1) := by decide +kernel
theorem dX8_module_10 : decode cX8_module 10 = .ok (.goto 20, 3) := by decide +kernel
theorem dX8_module_13 : decode cX8_module 13 = .ok (.iload_n 2, 1) := by decide +kernel
theorem dX8_module_14 : decode cX8_module 14 = .ok (.i2l, 1) := by decide +kernel
theorem dX8_module_15 : decode cX8_module 15 = .ok (.lconst 0, 1) := by decide +kernel
theorem dX8_module_16 : decode cX8_module 16 = .ok (.ldc2_w 237, 3) := by decide +kernel
theorem dX8_module_19 : decode cX8_module 19 = .ok (.invokestatic 146, 3) := by decide +kernel
theorem dX8_module_22 : decode cX8_module 22 = .ok (.ifCond .eq 7, 3) := by decide +kernel
theorem dX8_module_25 : decode cX8_module 25 = .ok (.iconst 0, 1) := by decide +kernel
theorem dX8_module_26 : decode cX8_module 26 = .ok (.goto 4, 3) := by decide +kernel
theorem dX8_module_29 : decode cX8_module 29 = .ok (.iconst 2, 1) := by decide +kernel
theorem dX8_module_30 : decode cX8_module 30 = .ok (.invokevirtual 153, 3) := by decide +kernel
theorem dX8_module_33 : decode cX8_module 33 = .ok (.ifCond .eq 5, 3) := by decide +kernel
theorem dX8_module_36 : decode cX8_module 36 = .ok (.iconst 0, 1) := by decide +kernel
theorem dX8_module_37 : decode cX8_module 37 = .ok (.ireturn, 1) := by decide +kernel
theorem dX8_module_38 : decode cX8_module 38 = .ok (.iload_n 2, 1) := by decide +kernel
theorem dX8_module_39 : decode cX8_module 39 = .ok (.tableswitch 61 3 5 #[25, 47, 54], 25) := by decide +kernel
theorem dX8_module_64 : decode cX8_module 64 = .ok (.aload_n 0, 1) := by decide +kernel
theorem dX8_module_65 : decode cX8_module 65 = .ok (.aload_n 0, 1) := by decide +kernel
theorem dX8_module_66 : decode cX8_module 66 = .ok (.getfield 16, 3) := by decide +kernel
theorem dX8_module_69 : decode cX8_module 69 = .ok (.invokevirtual 134, 3) := by decide +kernel
theorem dX8_module_72 : decode cX8_module 72 = .ok (.ifCond .eq 12, 3) := by decide +kernel
theorem dX8_module_75 : decode cX8_module 75 = .ok (.aload_n 0, 1) := by decide +kernel
theorem dX8_module_76 : decode cX8_module 76 = .ok (.getfield 32, 3) := by decide +kernel
theorem dX8_module_79 : decode cX8_module 79 = .ok (.iload_n 1, 1) := by decide +kernel
theorem dX8_module_80 : decode cX8_module 80 = .ok (.iaload, 1) := by decide +kernel
theorem dX8_module_81 : decode cX8_module 81 = .ok (.goto 4, 3) := by decide +kernel
theorem dX8_module_84 : decode cX8_module 84 = .ok (.iconst (-1), 1) := by decide +kernel
theorem dX8_module_85 : decode cX8_module 85 = .ok (.ireturn, 1) := by decide +kernel
theorem dX8_module_86 : decode cX8_module 86 = .ok (.aload_n 0, 1) := by decide +kernel
theorem dX8_module_87 : decode cX8_module 87 = .ok (.iload_n 1, 1) := by decide +kernel
theorem dX8_module_88 : decode cX8_module 88 = .ok (.iconst 1, 1) := by decide +kernel
theorem dX8_module_89 : decode cX8_module 89 = .ok (.invokevirtual 239, 3) := by decide +kernel
theorem dX8_module_92 : decode cX8_module 92 = .ok (.ireturn, 1) := by decide +kernel
theorem dX8_module_93 : decode cX8_module 93 = .ok (.aload_n 0, 1) := by decide +kernel
theorem dX8_module_94 : decode cX8_module 94 = .ok (.iload_n 1, 1) := by decide +kernel
theorem dX8_module_95 : decode cX8_module 95 = .ok (.iconst 0, 1) := by decide +kernel
theorem dX8_module_96 : decode cX8_module 96 = .ok (.invokevirtual 239, 3) := by decide +kernel
theorem dX8_module_99 : decode cX8_module 99 = .ok (.ireturn, 1) := by decide +kernel
theorem dX8_module_100 : decode cX8_module 100 = .ok (.aload_n 0, 1) := by decide +kernel
theorem dX8_module_101 : decode cX8_module 101 = .ok (.getfield 16, 3) := by decide +kernel
theorem dX8_module_104 : decode cX8_module 104 = .ok (.iload_n 1, 1) := by decide +kernel
theorem dX8_module_105 : decode cX8_module 105 = .ok (.iload_n 2, 1) := by decide +kernel
theorem dX8_module_106 : decode cX8_module 106 = .ok (.invokestatic 77, 3) := by decide +kernel
theorem dX8_module_109 : decode cX8_module 109 = .ok (.iaload, 1) := by decide +kernel
theorem dX8_module_110 : decode cX8_module 110 = .ok (.ireturn, 1) := by decide +kernel
theorem dX8_isWire_0 : decode cX8_isWire 0 = .ok (.iload_n 1, 1) := by decide +kernel
theorem dX8_isWire_1 : decode cX8_isWire 1 = .ok (.i2l, 1) := by decide +kernel
theorem dX8_isWire_2 : decode cX8_isWire 2 = .ok (.lconst 0, 1) := by decide +kernel
theorem dX8_isWire_3 : decode cX8_isWire 3 = .ok (.aload_n 0, 1) := by decide +kernel
theorem dX8_isWire_4 : decode cX8_isWire 4 = .ok (.getfield 16, 3) := by decide +kernel
theorem dX8_isWire_7 : decode cX8_isWire 7 = .ok (.iconst 1, 1) := by decide +kernel
theorem dX8_isWire_8 : decode cX8_isWire 8 = .ok (.iaload, 1) := by decide +kernel
theorem dX8_isWire_9 : decode cX8_isWire 9 = .ok (.iconst 1, 1) := by decide +kernel
theorem dX8_isWire_10 : decode cX8_isWire 10 = .ok (.isub, 1) := by decide +kernel
theorem dX8_isWire_11 : decode cX8_isWire 11 = .ok (.i2l, 1) := by decide +kernel
theorem dX8_isWire_12 : decode cX8_isWire 12 = .ok (.invokestatic 146, 3) := by decide +kernel
theorem dX8_isWire_15 : decode cX8_isWire 15 = .ok (.ireturn, 1) := by decide +kernel
theorem dX8_wire_0 : decode cX8_wire 0 = .ok (.aload_n 0, 1) := by decide +kernel
theorem dX8_wire_1 : decode cX8_wire 1 = .ok (.aload_n 0, 1) := by decide +kernel
theorem dX8_wire_2 : decode cX8_wire 2 = .ok (.iload_n 1, 1) := by decide +kernel
theorem dX8_wire_3 : decode cX8_wire 3 = .ok (.invokevirtual 242, 3) := by decide +kernel
theorem dX8_wire_6 : decode cX8_wire 6 = .ok (.ifCond .ne 7, 3) := by decide +kernel
theorem dX8_wire_9 : decode cX8_wire 9 = .ok (.iconst 1, 1) := by decide +kernel
theorem dX8_wire_10 : decode cX8_wire 10 = .ok (.goto 20, 3) := by decide +kernel
theorem dX8_wire_13 : decode cX8_wire 13 = .ok (.iload_n 2, 1) := by decide +kernel
theorem dX8_wire_14 : decode cX8_wire 14 = .ok (.i2l, 1) := by decide +kernel
theorem dX8_wire_15 : decode cX8_wire 15 = .ok (.lconst 0, 1) := by decide +kernel
theorem dX8_wire_16 : decode cX8_wire 16 = .ok (.ldc2_w 245, 3) := by decide +kernel
theorem dX8_wire_19 : decode cX8_wire 19 = .ok (.invokestatic 146, 3) := by decide +kernel
theorem dX8_wire_22 : decode cX8_wire 22 = .ok (.ifCond .eq 7, 3) := by decide +kernel
theorem dX8_wire_25 : decode cX8_wire 25 = .ok (.iconst 0, 1) := by decide +kernel
theorem dX8_wire_26 : decode cX8_wire 26 = .ok (.goto 4, 3) := by decide +kernel
theorem dX8_wire_29 : decode cX8_wire 29 = .ok (.iconst 2, 1) := by decide +kernel
theorem dX8_wire_30 : decode cX8_wire 30 = .ok (.invokevirtual 153, 3) := by decide +kernel
theorem dX8_wire_33 : decode cX8_wire 33 = .ok (.ifCond .eq 7, 3) := by decide +kernel
theorem dX8_wire_36 : decode cX8_wire 36 = .ok (.iconst 0, 1) := by decide +kernel
theorem dX8_wire_37 : decode cX8_wire 37 = .ok (.goto 13, 3) := by decide +kernel
theorem dX8_wire_40 : decode cX8_wire 40 = .ok (.aload_n 0, 1) := by decide +kernel
theorem dX8_wire_41 : decode cX8_wire 41 = .ok (.getfield 16, 3) := by decide +kernel
theorem dX8_wire_44 : decode cX8_wire 44 = .ok (.iload_n 1, 1) := by decide +kernel
theorem dX8_wire_45 : decode cX8_wire 45 = .ok (.iload_n 2, 1) := by decide +kernel
theorem dX8_wire_46 : decode cX8_wire 46 = .ok (.invokestatic 73, 3) := by decide +kernel
theorem dX8_wire_49 : decode cX8_wire 49 = .ok (.iaload, 1) := by decide +kernel
theorem dX8_wire_50 : decode cX8_wire 50 = .ok (.ireturn, 1) := by decide +kernel
theorem dX8_between_0 : decode cX8_between 0 = .ok (.aload_n 0, 1) := by decide +kernel
theorem dX8_between_1 : decode cX8_between 1 = .ok (.aload_n 0, 1) := by decide +kernel
theorem dX8_between_2 : decode cX8_between 2 = .ok (.iload_n 1, 1) := by decide +kernel
theorem dX8_between_3 : decode cX8_between 3 = .ok (.invokevirtual 234, 3) := by decide +kernel
theorem dX8_between_6 : decode cX8_between 6 = .ok (.ifCond .eq 15, 3) := by decide +kernel
theorem dX8_between_9 : decode cX8_between 9 = .ok (.aload_n 0, 1) := by decide +kernel
theorem dX8_between_10 : decode cX8_between 10 = .ok (.iload_n 2, 1) := by decide +kernel
theorem dX8_between_11 : decode cX8_between 11 = .ok (.invokevirtual 234, 3) := by decide +kernel
theorem dX8_between_14 : decode cX8_between 14 = .ok (.ifCond .eq 7, 3) := by decide +kernel
theorem dX8_between_17 : decode cX8_between 17 = .ok (.iconst 0, 1) := by decide +kernel
theorem dX8_between_18 : decode cX8_between 18 = .ok (.goto 4, 3) := by decide +kernel
theorem dX8_between_21 : decode cX8_between 21 = .ok (.iconst 1, 1) := by decide +kernel
theorem dX8_between_22 : decode cX8_between 22 = .ok (.invokevirtual 153, 3) := by decide +kernel
theorem dX8_between_25 : decode cX8_between 25 = .ok (.ifCond .eq 5, 3) := by decide +kernel
theorem dX8_between_28 : decode cX8_between 28 = .ok (.iconst 0, 1) := by decide +kernel
theorem dX8_between_29 : decode cX8_between 29 = .ok (.ireturn, 1) := by decide +kernel
theorem dX8_between_30 : decode cX8_between 30 = .ok (.aload_n 0, 1) := by decide +kernel
theorem dX8_between_31 : decode cX8_between 31 = .ok (.aload_n 0, 1) := by decide +kernel
theorem dX8_between_32 : decode cX8_between 32 = .ok (.getfield 16, 3) := by decide +kernel
theorem dX8_between_35 : decode cX8_between 35 = .ok (.sipush 999, 3) := by decide +kernel
theorem dX8_between_38 : decode cX8_between 38 = .ok (.invokevirtual 81, 3) := by decide +kernel
theorem dX8_between_41 : decode cX8_between 41 = .ok (.aload_n 0, 1) := by decide +kernel
theorem dX8_between_42 : decode cX8_between 42 = .ok (.getfield 54, 3) := by decide +kernel
theorem dX8_between_45 : decode cX8_between 45 = .ok (.bipush 8, 2) := by decide +kernel
theorem dX8_between_47 : decode cX8_between 47 = .ok (.iload_n 1, 1) := by decide +kernel
theorem dX8_between_48 : decode cX8_between 48 = .ok (.imul, 1) := by decide +kernel
theorem dX8_between_49 : decode cX8_between 49 = .ok (.iload_n 2, 1) := by decide +kernel
theorem dX8_between_50 : decode cX8_between 50 = .ok (.iadd, 1) := by decide +kernel
theorem dX8_between_51 : decode cX8_between 51 = .ok (.iaload, 1) := by decide +kernel
theorem dX8_between_52 : decode cX8_between 52 = .ok (.ldc 80, 2) := by decide +kernel
theorem dX8_between_54 : decode cX8_between 54 = .ok (.if_icmp .ge 17, 3) := by decide +kernel
theorem dX8_between_57 : decode cX8_between 57 = .ok (.aload_n 0, 1) := by decide +kernel
theorem dX8_between_58 : decode cX8_between 58 = .ok (.getfield 54, 3) := by decide +kernel
theorem dX8_between_61 : decode cX8_between 61 = .ok (.bipush 8, 2) := by decide +kernel
theorem dX8_between_63 : decode cX8_between 63 = .ok (.iload_n 1, 1) := by decide +kernel
theorem dX8_between_64 : decode cX8_between 64 = .ok (.imul, 1) := by decide +kernel
theorem dX8_between_65 : decode cX8_between 65 = .ok (.iload_n 2, 1) := by decide +kernel
theorem dX8_between_66 : decode cX8_between 66 = .ok (.iadd, 1) := by decide +kernel
theorem dX8_between_67 : decode cX8_between 67 = .ok (.iaload, 1) := by decide +kernel
theorem dX8_between_68 : decode cX8_between 68 = .ok (.goto 4, 3) := by decide +kernel
theorem dX8_between_71 : decode cX8_between 71 = .ok (.iconst (-1), 1) := by decide +kernel
theorem dX8_between_72 : decode cX8_between 72 = .ok (.ireturn, 1) := by decide +kernel
theorem dX8_isKind_0 : decode cX8_isKind 0 = .ok (.iload_n 0, 1) := by decide +kernel
theorem dX8_isKind_1 : decode cX8_isKind 1 = .ok (.i2l, 1) := by decide +kernel
theorem dX8_isKind_2 : decode cX8_isKind 2 = .ok (.lconst 0, 1) := by decide +kernel
theorem dX8_isKind_3 : decode cX8_isKind 3 = .ok (.ldc2_w 247, 3) := by decide +kernel
theorem dX8_isKind_6 : decode cX8_isKind 6 = .ok (.invokestatic 146, 3) := by decide +kernel
theorem dX8_isKind_9 : decode cX8_isKind 9 = .ok (.ireturn, 1) := by decide +kernel
theorem dX8_addModule_0 : decode cX8_addModule 0 = .ok (.iload_n 1, 1) := by decide +kernel
theorem dX8_addModule_1 : decode cX8_addModule 1 = .ok (.invokestatic 249, 3) := by decide +kernel
theorem dX8_addModule_4 : decode cX8_addModule 4 = .ok (.ifCond .eq 14, 3) := by decide +kernel
theorem dX8_addModule_7 : decode cX8_addModule 7 = .ok (.iload_n 2, 1) := by decide +kernel
theorem dX8_addModule_8 : decode cX8_addModule 8 = .ok (.invokestatic 249, 3) := by decide +kernel
theorem dX8_addModule_11 : decode cX8_addModule 11 = .ok (.ifCond .eq 7, 3) := by decide +kernel
theorem dX8_addModule_14 : decode cX8_addModule 14 = .ok (.iconst 1, 1) := by decide +kernel
theorem dX8_addModule_15 : decode cX8_addModule 15 = .ok (.goto 4, 3) := by decide +kernel
theorem dX8_addModule_18 : decode cX8_addModule 18 = .ok (.iconst 0, 1) := by decide +kernel
theorem dX8_addModule_19 : decode cX8_addModule 19 = .ok (.istore_n 3, 1) := by decide +kernel
theorem dX8_addModule_20 : decode cX8_addModule 20 = .ok (.aload_n 0, 1) := by decide +kernel
theorem dX8_addModule_21 : decode cX8_addModule 21 = .ok (.iload_n 3, 1) := by decide +kernel
theorem dX8_addModule_22 : decode cX8_addModule 22 = .ok (.ifCond .ne 7, 3) := by decide +kernel
theorem dX8_addModule_25 : decode cX8_addModule 25 = .ok (.iconst 1, 1) := by decide +kernel
theorem dX8_addModule_26 : decode cX8_addModule 26 = .ok (.goto 19, 3) := by decide +kernel
theorem dX8_addModule_29 : decode cX8_addModule 29 = .ok (.aload_n 0, 1) := by decide +kernel
theorem dX8_addModule_30 : decode cX8_addModule 30 = .ok (.getfield 16, 3) := by decide +kernel
theorem dX8_addModule_33 : decode cX8_addModule 33 = .ok (.iconst 0, 1) := by decide +kernel
theorem dX8_addModule_34 : decode cX8_addModule 34 = .ok (.iaload, 1) := by decide +kernel
theorem dX8_addModule_35 : decode cX8_addModule 35 = .ok (.bipush 8, 2) := by decide +kernel
theorem dX8_addModule_37 : decode cX8_addModule 37 = .ok (.if_icmp .ne 7, 3) := by decide +kernel
theorem dX8_addModule_40 : decode cX8_addModule 40 = .ok (.iconst 2, 1) := by decide +kernel
theorem dX8_addModule_41 : decode cX8_addModule 41 = .ok (.goto 4, 3) := by decide +kernel
theorem dX8_addModule_44 : decode cX8_addModule 44 = .ok (.iconst 0, 1) := by decide +kernel
theorem dX8_addModule_45 : decode cX8_addModule 45 = .ok (.invokevirtual 153, 3) := by decide +kernel
theorem dX8_addModule_48 : decode cX8_addModule 48 = .ok (.ifCond .eq 5, 3) := by decide +kernel
theorem dX8_addModule_51 : decode cX8_addModule 51 = .ok (.iconst 0, 1) := by decide +kernel
theorem dX8_addModule_52 : decode cX8_addModule 52 = .ok (.ireturn, 1) := by decide +kernel
theorem dX8_addModule_53 : decode cX8_addModule 53 = .ok (.aload_n 0, 1) := by decide +kernel
theorem dX8_addModule_54 : decode cX8_addModule 54 = .ok (.invokevirtual 252, 3) := by decide +kernel
theorem dX8_addModule_57 : decode cX8_addModule 57 = .ok (.aload_n 0, 1) := by decide +kernel
theorem dX8_addModule_58 : decode cX8_addModule 58 = .ok (.getfield 16, 3) := by decide +kernel
theorem dX8_addModule_61 : decode cX8_addModule 61 = .ok (.iload_n 1, 1) := by decide +kernel
theorem dX8_addModule_62 : decode cX8_addModule 62 = .ok (.iload_n 2, 1) := by decide +kernel
theorem dX8_addModule_63 : decode cX8_addModule 63 = .ok (.invokestatic 179, 3) := by decide +kernel
theorem dX8_addModule_66 : decode cX8_addModule 66 = .ok (.aload_n 0, 1) := by decide +kernel
theorem dX8_addModule_67 : decode cX8_addModule 67 = .ok (.getfield 16, 3) := by decide +kernel
theorem dX8_addModule_70 : decode cX8_addModule 70 = .ok (.iconst 0, 1) := by decide +kernel
theorem dX8_addModule_71 : decode cX8_addModule 71 = .ok (.iaload, 1) := by decide +kernel
theorem dX8_addModule_72 : decode cX8_addModule 72 = .ok (.iconst 1, 1) := by decide +kernel
theorem dX8_addModule_73 : decode cX8_addModule 73 = .ok (.isub, 1) := by decide +kernel
theorem dX8_addModule_74 : decode cX8_addModule 74 = .ok (.ireturn, 1) := by decide +kernel
theorem dX8_isRate_0 : decode cX8_isRate 0 = .ok (.iload_n 0, 1) := by decide +kernel
theorem dX8_isRate_1 : decode cX8_isRate 1 = .ok (.i2l, 1) := by decide +kernel
theorem dX8_isRate_2 : decode cX8_isRate 2 = .ok (.lconst 1, 1) := by decide +kernel
theorem dX8_isRate_3 : decode cX8_isRate 3 = .ok (.ldc2_w 255, 3) := by decide +kernel
theorem dX8_isRate_6 : decode cX8_isRate 6 = .ok (.invokestatic 146, 3) := by decide +kernel
theorem dX8_isRate_9 : decode cX8_isRate 9 = .ok (.ireturn, 1) := by decide +kernel
theorem dX8_isMarks_0 : decode cX8_isMarks 0 = .ok (.iload_n 0, 1) := by decide +kernel
theorem dX8_isMarks_1 : decode cX8_isMarks 1 = .ok (.i2l, 1) := by decide +kernel
theorem dX8_isMarks_2 : decode cX8_isMarks 2 = .ok (.lconst 0, 1) := by decide +kernel
theorem dX8_isMarks_3 : decode cX8_isMarks 3 = .ok (.ldc2_w 257, 3) := by decide +kernel
theorem dX8_isMarks_6 : decode cX8_isMarks 6 = .ok (.invokestatic 146, 3) := by decide +kernel
theorem dX8_isMarks_9 : decode cX8_isMarks 9 = .ok (.ireturn, 1) := by decide +kernel
theorem dX8_lay_0 : decode cX8_lay 0 = .ok (.aload_n 0, 1) := by decide +kernel
theorem dX8_lay_1 : decode cX8_lay 1 = .ok (.iload_n 1, 1) := by decide +kernel
theorem dX8_lay_2 : decode cX8_lay 2 = .ok (.invokevirtual 234, 3) := by decide +kernel
theorem dX8_lay_5 : decode cX8_lay 5 = .ok (.ifCond .eq 15, 3) := by decide +kernel
theorem dX8_lay_8 : decode cX8_lay 8 = .ok (.aload_n 0, 1) := by decide +kernel
theorem dX8_lay_9 : decode cX8_lay 9 = .ok (.iload_n 2, 1) := by decide +kernel
theorem dX8_lay_10 : decode cX8_lay 10 = .ok (.invokevirtual 234, 3) := by decide +kernel
theorem dX8_lay_13 : decode cX8_lay 13 = .ok (.ifCond .eq 7, 3) := by decide +kernel
theorem dX8_lay_16 : decode cX8_lay 16 = .ok (.iconst 1, 1) := by decide +kernel
theorem dX8_lay_17 : decode cX8_lay 17 = .ok (.goto 4, 3) := by decide +kernel
theorem dX8_lay_20 : decode cX8_lay 20 = .ok (.iconst 0, 1) := by decide +kernel
theorem dX8_lay_21 : decode cX8_lay 21 = .ok (.istore 6, 2) := by decide +kernel
theorem dX8_lay_23 : decode cX8_lay 23 = .ok (.iload_n 3, 1) := by decide +kernel
theorem dX8_lay_24 : decode cX8_lay 24 = .ok (.invokestatic 259, 3) := by decide +kernel
theorem dX8_lay_27 : decode cX8_lay 27 = .ok (.ifCond .eq 23, 3) := by decide +kernel
theorem dX8_lay_30 : decode cX8_lay 30 = .ok (.iload 4, 2) := by decide +kernel
theorem dX8_lay_32 : decode cX8_lay 32 = .ok (.invokestatic 259, 3) := by decide +kernel
theorem dX8_lay_35 : decode cX8_lay 35 = .ok (.ifCond .eq 15, 3) := by decide +kernel
theorem dX8_lay_38 : decode cX8_lay 38 = .ok (.iload 5, 2) := by decide +kernel
theorem dX8_lay_40 : decode cX8_lay 40 = .ok (.invokestatic 262, 3) := by decide +kernel
theorem dX8_lay_43 : decode cX8_lay 43 = .ok (.ifCond .eq 7, 3) := by decide +kernel
theorem dX8_lay_46 : decode cX8_lay 46 = .ok (.iconst 1, 1) := by decide +kernel
theorem dX8_lay_47 : decode cX8_lay 47 = .ok (.goto 4, 3) := by decide +kernel
theorem dX8_lay_50 : decode cX8_lay 50 = .ok (.iconst 0, 1) := by decide +kernel
theorem dX8_lay_51 : decode cX8_lay 51 = .ok (.istore 7, 2) := by decide +kernel
theorem dX8_lay_53 : decode cX8_lay 53 = .ok (.aload_n 0, 1) := by decide +kernel
theorem dX8_lay_54 : decode cX8_lay 54 = .ok (.iload 6, 2) := by decide +kernel
theorem dX8_lay_56 : decode cX8_lay 56 = .ok (.ifCond .ne 7, 3) := by decide +kernel
theorem dX8_lay_59 : decode cX8_lay 59 = .ok (.iconst 1, 1) := by decide +kernel
theorem dX8_lay_60 : decode cX8_lay 60 = .ok (.goto 32, 3) := by decide +kernel
theorem dX8_lay_63 : decode cX8_lay 63 = .ok (.iload 7, 2) := by decide +kernel
theorem dX8_lay_65 : decode cX8_lay 65 = .ok (.ifCond .ne 7, 3) := by decide +kernel
theorem dX8_lay_68 : decode cX8_lay 68 = .ok (.iconst 2, 1) := by decide +kernel
theorem dX8_lay_69 : decode cX8_lay 69 = .ok (.goto 23, 3) := by decide +kernel
theorem dX8_lay_72 : decode cX8_lay 72 = .ok (.aload_n 0, 1) := by decide +kernel
theorem dX8_lay_73 : decode cX8_lay 73 = .ok (.aload_n 0, 1) := by decide +kernel
theorem dX8_lay_74 : decode cX8_lay 74 = .ok (.getfield 16, 3) := by decide +kernel
theorem dX8_lay_77 : decode cX8_lay 77 = .ok (.iload_n 1, 1) := by decide +kernel
theorem dX8_lay_78 : decode cX8_lay 78 = .ok (.iload_n 2, 1) := by decide +kernel
theorem dX8_lay_79 : decode cX8_lay 79 = .ok (.iload 5, 2) := by decide +kernel
theorem dX8_lay_81 : decode cX8_lay 81 = .ok (.invokevirtual 183, 3) := by decide +kernel
theorem dX8_lay_84 : decode cX8_lay 84 = .ok (.ifCond .eq 7, 3) := by decide +kernel
theorem dX8_lay_87 : decode cX8_lay 87 = .ok (.iconst 0, 1) := by decide +kernel
theorem dX8_lay_88 : decode cX8_lay 88 = .ok (.goto 4, 3) := by decide +kernel
theorem dX8_lay_91 : decode cX8_lay 91 = .ok (.iconst 3, 1) := by decide +kernel
theorem dX8_lay_92 : decode cX8_lay 92 = .ok (.invokevirtual 153, 3) := by decide +kernel
theorem dX8_lay_95 : decode cX8_lay 95 = .ok (.ifCond .eq 5, 3) := by decide +kernel
theorem dX8_lay_98 : decode cX8_lay 98 = .ok (.iconst 0, 1) := by decide +kernel
theorem dX8_lay_99 : decode cX8_lay 99 = .ok (.ireturn, 1) := by decide +kernel
theorem dX8_lay_100 : decode cX8_lay 100 = .ok (.aload_n 0, 1) := by decide +kernel
theorem dX8_lay_101 : decode cX8_lay 101 = .ok (.invokevirtual 252, 3) := by decide +kernel
theorem dX8_lay_104 : decode cX8_lay 104 = .ok (.aload_n 0, 1) := by decide +kernel
theorem dX8_lay_105 : decode cX8_lay 105 = .ok (.getfield 16, 3) := by decide +kernel
theorem dX8_lay_108 : decode cX8_lay 108 = .ok (.iload_n 1, 1) := by decide +kernel
theorem dX8_lay_109 : decode cX8_lay 109 = .ok (.iload_n 2, 1) := by decide +kernel
theorem dX8_lay_110 : decode cX8_lay 110 = .ok (.iload_n 3, 1) := by decide +kernel
theorem dX8_lay_111 : decode cX8_lay 111 = .ok (.iload 4, 2) := by decide +kernel
theorem dX8_lay_113 : decode cX8_lay 113 = .ok (.iload 5, 2) := by decide +kernel
theorem dX8_lay_115 : decode cX8_lay 115 = .ok (.invokestatic 187, 3) := by decide +kernel
theorem dX8_lay_118 : decode cX8_lay 118 = .ok (.aload_n 0, 1) := by decide +kernel
theorem dX8_lay_119 : decode cX8_lay 119 = .ok (.getfield 16, 3) := by decide +kernel
theorem dX8_lay_122 : decode cX8_lay 122 = .ok (.iconst 1, 1) := by decide +kernel
theorem dX8_lay_123 : decode cX8_lay 123 = .ok (.iaload, 1) := by decide +kernel
theorem dX8_lay_124 : decode cX8_lay 124 = .ok (.iconst 1, 1) := by decide +kernel
theorem dX8_lay_125 : decode cX8_lay 125 = .ok (.isub, 1) := by decide +kernel
theorem dX8_lay_126 : decode cX8_lay 126 = .ok (.ireturn, 1) := by decide +kernel
theorem dX8_cut_0 : decode cX8_cut 0 = .ok (.aload_n 0, 1) := by decide +kernel
theorem dX8_cut_1 : decode cX8_cut 1 = .ok (.aload_n 0, 1) := by decide +kernel
theorem dX8_cut_2 : decode cX8_cut 2 = .ok (.iload_n 1, 1) := by decide +kernel
theorem dX8_cut_3 : decode cX8_cut 3 = .ok (.invokevirtual 242, 3) := by decide +kernel
theorem dX8_cut_6 : decode cX8_cut 6 = .ok (.ifCond .eq 7, 3) := by decide +kernel
theorem dX8_cut_9 : decode cX8_cut 9 = .ok (.iconst 0, 1) := by decide +kernel
theorem dX8_cut_10 : decode cX8_cut 10 = .ok (.goto 4, 3) := by decide +kernel
theorem dX8_cut_13 : decode cX8_cut 13 = .ok (.iconst 1, 1) := by decide +kernel
theorem dX8_cut_14 : decode cX8_cut 14 = .ok (.invokevirtual 153, 3) := by decide +kernel
theorem dX8_cut_17 : decode cX8_cut 17 = .ok (.ifCond .eq 5, 3) := by decide +kernel
theorem dX8_cut_20 : decode cX8_cut 20 = .ok (.iconst 0, 1) := by decide +kernel
theorem dX8_cut_21 : decode cX8_cut 21 = .ok (.ireturn, 1) := by decide +kernel
theorem dX8_cut_22 : decode cX8_cut 22 = .ok (.aload_n 0, 1) := by decide +kernel
theorem dX8_cut_23 : decode cX8_cut 23 = .ok (.invokevirtual 252, 3) := by decide +kernel
theorem dX8_cut_26 : decode cX8_cut 26 = .ok (.aload_n 0, 1) := by decide +kernel
theorem dX8_cut_27 : decode cX8_cut 27 = .ok (.getfield 16, 3) := by decide +kernel
theorem dX8_cut_30 : decode cX8_cut 30 = .ok (.iload_n 1, 1) := by decide +kernel
theorem dX8_cut_31 : decode cX8_cut 31 = .ok (.iconst 4, 1) := by decide +kernel
theorem dX8_cut_32 : decode cX8_cut 32 = .ok (.invokestatic 73, 3) := by decide +kernel
theorem dX8_cut_35 : decode cX8_cut 35 = .ok (.iaload, 1) := by decide +kernel
theorem dX8_cut_36 : decode cX8_cut 36 = .ok (.istore_n 2, 1) := by decide +kernel
theorem dX8_cut_37 : decode cX8_cut 37 = .ok (.aload_n 0, 1) := by decide +kernel
theorem dX8_cut_38 : decode cX8_cut 38 = .ok (.getfield 16, 3) := by decide +kernel
theorem dX8_cut_41 : decode cX8_cut 41 = .ok (.iload_n 1, 1) := by decide +kernel
theorem dX8_cut_42 : decode cX8_cut 42 = .ok (.invokestatic 191, 3) := by decide +kernel
theorem dX8_cut_45 : decode cX8_cut 45 = .ok (.iload_n 2, 1) := by decide +kernel
theorem dX8_cut_46 : decode cX8_cut 46 = .ok (.ireturn, 1) := by decide +kernel
theorem dX8_put_0 : decode cX8_put 0 = .ok (.aload_n 0, 1) := by decide +kernel
theorem dX8_put_1 : decode cX8_put 1 = .ok (.aload_n 0, 1) := by decide +kernel
theorem dX8_put_2 : decode cX8_put 2 = .ok (.iload_n 1, 1) := by decide +kernel
theorem dX8_put_3 : decode cX8_put 3 = .ok (.invokevirtual 242, 3) := by decide +kernel
theorem dX8_put_6 : decode cX8_put 6 = .ok (.ifCond .ne 7, 3) := by decide +kernel
theorem dX8_put_9 : decode cX8_put 9 = .ok (.iconst 1, 1) := by decide +kernel
theorem dX8_put_10 : decode cX8_put 10 = .ok (.goto 32, 3) := by decide +kernel
theorem dX8_put_13 : decode cX8_put 13 = .ok (.iload_n 2, 1) := by decide +kernel
theorem dX8_put_14 : decode cX8_put 14 = .ok (.invokestatic 262, 3) := by decide +kernel
theorem dX8_put_17 : decode cX8_put 17 = .ok (.ifCond .ne 7, 3) := by decide +kernel
theorem dX8_put_20 : decode cX8_put 20 = .ok (.iconst 2, 1) := by decide +kernel
theorem dX8_put_21 : decode cX8_put 21 = .ok (.goto 21, 3) := by decide +kernel
theorem dX8_put_24 : decode cX8_put 24 = .ok (.aload_n 0, 1) := by decide +kernel
theorem dX8_put_25 : decode cX8_put 25 = .ok (.aload_n 0, 1) := by decide +kernel
theorem dX8_put_26 : decode cX8_put 26 = .ok (.getfield 16, 3) := by decide +kernel
theorem dX8_put_29 : decode cX8_put 29 = .ok (.iload_n 1, 1) := by decide +kernel
theorem dX8_put_30 : decode cX8_put 30 = .ok (.iload_n 2, 1) := by decide +kernel
theorem dX8_put_31 : decode cX8_put 31 = .ok (.invokevirtual 265, 3) := by decide +kernel
theorem dX8_put_34 : decode cX8_put 34 = .ok (.ifCond .eq 7, 3) := by decide +kernel
theorem dX8_put_37 : decode cX8_put 37 = .ok (.iconst 0, 1) := by decide +kernel
theorem dX8_put_38 : decode cX8_put 38 = .ok (.goto 4, 3) := by decide +kernel
theorem dX8_put_41 : decode cX8_put 41 = .ok (.iconst 3, 1) := by decide +kernel
theorem dX8_put_42 : decode cX8_put 42 = .ok (.invokevirtual 153, 3) := by decide +kernel
theorem dX8_put_45 : decode cX8_put 45 = .ok (.ifCond .eq 5, 3) := by decide +kernel
theorem dX8_put_48 : decode cX8_put 48 = .ok (.iconst 0, 1) := by decide +kernel
theorem dX8_put_49 : decode cX8_put 49 = .ok (.ireturn, 1) := by decide +kernel
theorem dX8_put_50 : decode cX8_put 50 = .ok (.aload_n 0, 1) := by decide +kernel
theorem dX8_put_51 : decode cX8_put 51 = .ok (.invokevirtual 252, 3) := by decide +kernel
theorem dX8_put_54 : decode cX8_put 54 = .ok (.aload_n 0, 1) := by decide +kernel
theorem dX8_put_55 : decode cX8_put 55 = .ok (.getfield 16, 3) := by decide +kernel
theorem dX8_put_58 : decode cX8_put 58 = .ok (.iload_n 1, 1) := by decide +kernel
theorem dX8_put_59 : decode cX8_put 59 = .ok (.iconst 4, 1) := by decide +kernel
theorem dX8_put_60 : decode cX8_put 60 = .ok (.invokestatic 73, 3) := by decide +kernel
theorem dX8_put_63 : decode cX8_put 63 = .ok (.iaload, 1) := by decide +kernel
theorem dX8_put_64 : decode cX8_put 64 = .ok (.istore_n 3, 1) := by decide +kernel
theorem dX8_put_65 : decode cX8_put 65 = .ok (.aload_n 0, 1) := by decide +kernel
theorem dX8_put_66 : decode cX8_put 66 = .ok (.getfield 16, 3) := by decide +kernel
theorem dX8_put_69 : decode cX8_put 69 = .ok (.iload_n 1, 1) := by decide +kernel
theorem dX8_put_70 : decode cX8_put 70 = .ok (.iconst 4, 1) := by decide +kernel
theorem dX8_put_71 : decode cX8_put 71 = .ok (.invokestatic 73, 3) := by decide +kernel
theorem dX8_put_74 : decode cX8_put 74 = .ok (.iload_n 2, 1) := by decide +kernel
theorem dX8_put_75 : decode cX8_put 75 = .ok (.iastore, 1) := by decide +kernel
theorem dX8_put_76 : decode cX8_put 76 = .ok (.iload_n 3, 1) := by decide +kernel
theorem dX8_put_77 : decode cX8_put 77 = .ok (.ireturn, 1) := by decide +kernel
theorem dX8_work_0 : decode cX8_work 0 = .ok (.aload_n 0, 1) := by decide +kernel
theorem dX8_work_1 : decode cX8_work 1 = .ok (.aload_n 0, 1) := by decide +kernel
theorem dX8_work_2 : decode cX8_work 2 = .ok (.iload_n 1, 1) := by decide +kernel
theorem dX8_work_3 : decode cX8_work 3 = .ok (.invokevirtual 234, 3) := by decide +kernel
theorem dX8_work_6 : decode cX8_work 6 = .ok (.ifCond .ne 7, 3) := by decide +kernel
theorem dX8_work_9 : decode cX8_work 9 = .ok (.iconst 1, 1) := by decide +kernel
theorem dX8_work_10 : decode cX8_work 10 = .ok (.goto 19, 3) := by decide +kernel
theorem dX8_work_13 : decode cX8_work 13 = .ok (.aload_n 0, 1) := by decide +kernel
theorem dX8_work_14 : decode cX8_work 14 = .ok (.getfield 16, 3) := by decide +kernel
theorem dX8_work_17 : decode cX8_work 17 = .ok (.iload_n 1, 1) := by decide +kernel
theorem dX8_work_18 : decode cX8_work 18 = .ok (.invokestatic 106, 3) := by decide +kernel
theorem dX8_work_21 : decode cX8_work 21 = .ok (.ifCond .eq 7, 3) := by decide +kernel
theorem dX8_work_24 : decode cX8_work 24 = .ok (.iconst 0, 1) := by decide +kernel
theorem dX8_work_25 : decode cX8_work 25 = .ok (.goto 4, 3) := by decide +kernel
theorem dX8_work_28 : decode cX8_work 28 = .ok (.iconst 2, 1) := by decide +kernel
theorem dX8_work_29 : decode cX8_work 29 = .ok (.invokevirtual 153, 3) := by decide +kernel
theorem dX8_work_32 : decode cX8_work 32 = .ok (.ifCond .eq 5, 3) := by decide +kernel
theorem dX8_work_35 : decode cX8_work 35 = .ok (.iconst 0, 1) := by decide +kernel
theorem dX8_work_36 : decode cX8_work 36 = .ok (.ireturn, 1) := by decide +kernel
theorem dX8_work_37 : decode cX8_work 37 = .ok (.aload_n 0, 1) := by decide +kernel
theorem dX8_work_38 : decode cX8_work 38 = .ok (.invokevirtual 252, 3) := by decide +kernel
theorem dX8_work_41 : decode cX8_work 41 = .ok (.aload_n 0, 1) := by decide +kernel
theorem dX8_work_42 : decode cX8_work 42 = .ok (.getfield 16, 3) := by decide +kernel
theorem dX8_work_45 : decode cX8_work 45 = .ok (.iload_n 1, 1) := by decide +kernel
theorem dX8_work_46 : decode cX8_work 46 = .ok (.invokestatic 124, 3) := by decide +kernel
theorem dX8_work_49 : decode cX8_work 49 = .ok (.aload_n 0, 1) := by decide +kernel
theorem dX8_work_50 : decode cX8_work 50 = .ok (.getfield 16, 3) := by decide +kernel
theorem dX8_work_53 : decode cX8_work 53 = .ok (.invokestatic 218, 3) := by decide +kernel
theorem dX8_work_56 : decode cX8_work 56 = .ok (.ireturn, 1) := by decide +kernel
theorem dX8_isRule_0 : decode cX8_isRule 0 = .ok (.iload_n 0, 1) := by decide +kernel
theorem dX8_isRule_1 : decode cX8_isRule 1 = .ok (.i2l, 1) := by decide +kernel
theorem dX8_isRule_2 : decode cX8_isRule 2 = .ok (.lconst 0, 1) := by decide +kernel
theorem dX8_isRule_3 : decode cX8_isRule 3 = .ok (.ldc2_w 268, 3) := by decide +kernel
theorem dX8_isRule_6 : decode cX8_isRule 6 = .ok (.invokestatic 146, 3) := by decide +kernel
theorem dX8_isRule_9 : decode cX8_isRule 9 = .ok (.ireturn, 1) := by decide +kernel
theorem dX8_round_0 : decode cX8_round 0 = .ok (.iload_n 1, 1) := by decide +kernel
theorem dX8_round_1 : decode cX8_round 1 = .ok (.invokestatic 270, 3) := by decide +kernel
theorem dX8_round_4 : decode cX8_round 4 = .ok (.istore_n 2, 1) := by decide +kernel
theorem dX8_round_5 : decode cX8_round 5 = .ok (.aload_n 0, 1) := by decide +kernel
theorem dX8_round_6 : decode cX8_round 6 = .ok (.iload_n 2, 1) := by decide +kernel
theorem dX8_round_7 : decode cX8_round 7 = .ok (.ifCond .ne 7, 3) := by decide +kernel
theorem dX8_round_10 : decode cX8_round 10 = .ok (.iconst 1, 1) := by decide +kernel
theorem dX8_round_11 : decode cX8_round 11 = .ok (.goto 23, 3) := by decide +kernel
theorem dX8_round_14 : decode cX8_round 14 = .ok (.aload_n 0, 1) := by decide +kernel
theorem dX8_round_15 : decode cX8_round 15 = .ok (.iload_n 1, 1) := by decide +kernel
theorem dX8_round_16 : decode cX8_round 16 = .ok (.invokevirtual 273, 3) := by decide +kernel
theorem dX8_round_19 : decode cX8_round 19 = .ok (.ifCond .eq 14, 3) := by decide +kernel
theorem dX8_round_22 : decode cX8_round 22 = .ok (.aload_n 0, 1) := by decide +kernel
theorem dX8_round_23 : decode cX8_round 23 = .ok (.getfield 127, 3) := by decide +kernel
theorem dX8_round_26 : decode cX8_round 26 = .ok (.ifCond .eq 7, 3) := by decide +kernel
theorem dX8_round_29 : decode cX8_round 29 = .ok (.iconst 0, 1) := by decide +kernel
theorem dX8_round_30 : decode cX8_round 30 = .ok (.goto 4, 3) := by decide +kernel
theorem dX8_round_33 : decode cX8_round 33 = .ok (.iconst 2, 1) := by decide +kernel
theorem dX8_round_34 : decode cX8_round 34 = .ok (.invokevirtual 153, 3) := by decide +kernel
theorem dX8_round_37 : decode cX8_round 37 = .ok (.ifCond .eq 5, 3) := by decide +kernel
theorem dX8_round_40 : decode cX8_round 40 = .ok (.iconst 0, 1) := by decide +kernel
theorem dX8_round_41 : decode cX8_round 41 = .ok (.ireturn, 1) := by decide +kernel
theorem dX8_round_42 : decode cX8_round 42 = .ok (.aload_n 0, 1) := by decide +kernel
theorem dX8_round_43 : decode cX8_round 43 = .ok (.invokevirtual 252, 3) := by decide +kernel
theorem dX8_round_46 : decode cX8_round 46 = .ok (.aload_n 0, 1) := by decide +kernel
theorem dX8_round_47 : decode cX8_round 47 = .ok (.getfield 19, 3) := by decide +kernel
theorem dX8_round_50 : decode cX8_round 50 = .ok (.iconst 0, 1) := by decide +kernel
theorem dX8_round_51 : decode cX8_round 51 = .ok (.aload_n 0, 1) := by decide +kernel
theorem dX8_round_52 : decode cX8_round 52 = .ok (.getfield 16, 3) := by decide +kernel
theorem dX8_round_55 : decode cX8_round 55 = .ok (.iconst 0, 1) := by decide +kernel
theorem dX8_round_56 : decode cX8_round 56 = .ok (.bipush 96, 2) := by decide +kernel
theorem dX8_round_58 : decode cX8_round 58 = .ok (.invokestatic 69, 3) := by decide +kernel
theorem dX8_round_61 : decode cX8_round 61 = .ok (.aload_n 0, 1) := by decide +kernel
theorem dX8_round_62 : decode cX8_round 62 = .ok (.getfield 114, 3) := by decide +kernel
theorem dX8_round_65 : decode cX8_round 65 = .ok (.ireturn, 1) := by decide +kernel
theorem dX8_undo_0 : decode cX8_undo 0 = .ok (.aload_n 0, 1) := by decide +kernel
theorem dX8_undo_1 : decode cX8_undo 1 = .ok (.aload_n 0, 1) := by decide +kernel
theorem dX8_undo_2 : decode cX8_undo 2 = .ok (.getfield 66, 3) := by decide +kernel
theorem dX8_undo_5 : decode cX8_undo 5 = .ok (.ifCond .ne 7, 3) := by decide +kernel
theorem dX8_undo_8 : decode cX8_undo 8 = .ok (.iconst 1, 1) := by decide +kernel
theorem dX8_undo_9 : decode cX8_undo 9 = .ok (.goto 4, 3) := by decide +kernel
theorem dX8_undo_12 : decode cX8_undo 12 = .ok (.iconst 0, 1) := by decide +kernel
theorem dX8_undo_13 : decode cX8_undo 13 = .ok (.invokevirtual 153, 3) := by decide +kernel
theorem dX8_undo_16 : decode cX8_undo 16 = .ok (.ifCond .eq 5, 3) := by decide +kernel
theorem dX8_undo_19 : decode cX8_undo 19 = .ok (.iconst 0, 1) := by decide +kernel
theorem dX8_undo_20 : decode cX8_undo 20 = .ok (.ireturn, 1) := by decide +kernel
theorem dX8_undo_21 : decode cX8_undo 21 = .ok (.aload_n 0, 1) := by decide +kernel
theorem dX8_undo_22 : decode cX8_undo 22 = .ok (.dup, 1) := by decide +kernel
theorem dX8_undo_23 : decode cX8_undo 23 = .ok (.getfield 66, 3) := by decide +kernel
theorem dX8_undo_26 : decode cX8_undo 26 = .ok (.iconst 1, 1) := by decide +kernel
theorem dX8_undo_27 : decode cX8_undo 27 = .ok (.isub, 1) := by decide +kernel
theorem dX8_undo_28 : decode cX8_undo 28 = .ok (.putfield 66, 3) := by decide +kernel
theorem dX8_undo_31 : decode cX8_undo 31 = .ok (.aload_n 0, 1) := by decide +kernel
theorem dX8_undo_32 : decode cX8_undo 32 = .ok (.getfield 22, 3) := by decide +kernel
theorem dX8_undo_35 : decode cX8_undo 35 = .ok (.bipush 96, 2) := by decide +kernel
theorem dX8_undo_37 : decode cX8_undo 37 = .ok (.aload_n 0, 1) := by decide +kernel
theorem dX8_undo_38 : decode cX8_undo 38 = .ok (.getfield 66, 3) := by decide +kernel
theorem dX8_undo_41 : decode cX8_undo 41 = .ok (.imul, 1) := by decide +kernel
theorem dX8_undo_42 : decode cX8_undo 42 = .ok (.aload_n 0, 1) := by decide +kernel
theorem dX8_undo_43 : decode cX8_undo 43 = .ok (.getfield 16, 3) := by decide +kernel
theorem dX8_undo_46 : decode cX8_undo 46 = .ok (.iconst 0, 1) := by decide +kernel
theorem dX8_undo_47 : decode cX8_undo 47 = .ok (.bipush 96, 2) := by decide +kernel
theorem dX8_undo_49 : decode cX8_undo 49 = .ok (.invokestatic 69, 3) := by decide +kernel
theorem dX8_undo_52 : decode cX8_undo 52 = .ok (.aload_n 0, 1) := by decide +kernel
theorem dX8_undo_53 : decode cX8_undo 53 = .ok (.getfield 66, 3) := by decide +kernel
theorem dX8_undo_56 : decode cX8_undo 56 = .ok (.ireturn, 1) := by decide +kernel
theorem dX8_order_0 : decode cX8_order 0 = .ok (.aload_n 0, 1) := by decide +kernel
theorem dX8_order_1 : decode cX8_order 1 = .ok (.iload_n 1, 1) := by decide +kernel
theorem dX8_order_2 : decode cX8_order 2 = .ok (.invokestatic 270, 3) := by decide +kernel
theorem dX8_order_5 : decode cX8_order 5 = .ok (.ifCond .eq 11, 3) := by decide +kernel
theorem dX8_order_8 : decode cX8_order 8 = .ok (.iload_n 2, 1) := by decide +kernel
theorem dX8_order_9 : decode cX8_order 9 = .ok (.ifCond .lt 7, 3) := by decide +kernel
theorem dX8_order_12 : decode cX8_order 12 = .ok (.iconst 0, 1) := by decide +kernel
theorem dX8_order_13 : decode cX8_order 13 = .ok (.goto 4, 3) := by decide +kernel
theorem dX8_order_16 : decode cX8_order 16 = .ok (.iconst 1, 1) := by decide +kernel
theorem dX8_order_17 : decode cX8_order 17 = .ok (.invokevirtual 153, 3) := by decide +kernel
theorem dX8_order_20 : decode cX8_order 20 = .ok (.ifCond .eq 5, 3) := by decide +kernel
theorem dX8_order_23 : decode cX8_order 23 = .ok (.iconst 0, 1) := by decide +kernel
theorem dX8_order_24 : decode cX8_order 24 = .ok (.ireturn, 1) := by decide +kernel
theorem dX8_order_25 : decode cX8_order 25 = .ok (.aload_n 0, 1) := by decide +kernel
theorem dX8_order_26 : decode cX8_order 26 = .ok (.iload_n 1, 1) := by decide +kernel
theorem dX8_order_27 : decode cX8_order 27 = .ok (.invokevirtual 273, 3) := by decide +kernel
theorem dX8_order_30 : decode cX8_order 30 = .ok (.ifCond .eq 20, 3) := by decide +kernel
theorem dX8_order_33 : decode cX8_order 33 = .ok (.iload_n 2, 1) := by decide +kernel
theorem dX8_order_34 : decode cX8_order 34 = .ok (.aload_n 0, 1) := by decide +kernel
theorem dX8_order_35 : decode cX8_order 35 = .ok (.getfield 114, 3) := by decide +kernel
theorem dX8_order_38 : decode cX8_order 38 = .ok (.if_icmp .ge 12, 3) := by decide +kernel
theorem dX8_order_41 : decode cX8_order 41 = .ok (.aload_n 0, 1) := by decide +kernel
theorem dX8_order_42 : decode cX8_order 42 = .ok (.getfield 48, 3) := by decide +kernel
theorem dX8_order_45 : decode cX8_order 45 = .ok (.iload_n 2, 1) := by decide +kernel
theorem dX8_order_46 : decode cX8_order 46 = .ok (.iaload, 1) := by decide +kernel
theorem dX8_order_47 : decode cX8_order 47 = .ok (.goto 4, 3) := by decide +kernel
theorem dX8_order_50 : decode cX8_order 50 = .ok (.iconst (-1), 1) := by decide +kernel
theorem dX8_order_51 : decode cX8_order 51 = .ok (.ireturn, 1) := by decide +kernel
theorem dX8_sticks_0 : decode cX8_sticks 0 = .ok (.aload_n 0, 1) := by decide +kernel
theorem dX8_sticks_1 : decode cX8_sticks 1 = .ok (.iload_n 1, 1) := by decide +kernel
theorem dX8_sticks_2 : decode cX8_sticks 2 = .ok (.invokestatic 270, 3) := by decide +kernel
theorem dX8_sticks_5 : decode cX8_sticks 5 = .ok (.ifCond .eq 7, 3) := by decide +kernel
theorem dX8_sticks_8 : decode cX8_sticks 8 = .ok (.iconst 0, 1) := by decide +kernel
theorem dX8_sticks_9 : decode cX8_sticks 9 = .ok (.goto 4, 3) := by decide +kernel
theorem dX8_sticks_12 : decode cX8_sticks 12 = .ok (.iconst 1, 1) := by decide +kernel
theorem dX8_sticks_13 : decode cX8_sticks 13 = .ok (.invokevirtual 153, 3) := by decide +kernel
theorem dX8_sticks_16 : decode cX8_sticks 16 = .ok (.ifCond .eq 5, 3) := by decide +kernel
theorem dX8_sticks_19 : decode cX8_sticks 19 = .ok (.iconst 0, 1) := by decide +kernel
theorem dX8_sticks_20 : decode cX8_sticks 20 = .ok (.ireturn, 1) := by decide +kernel
theorem dX8_sticks_21 : decode cX8_sticks 21 = .ok (.aload_n 0, 1) := by decide +kernel
theorem dX8_sticks_22 : decode cX8_sticks 22 = .ok (.iload_n 1, 1) := by decide +kernel
theorem dX8_sticks_23 : decode cX8_sticks 23 = .ok (.invokevirtual 273, 3) := by decide +kernel
theorem dX8_sticks_26 : decode cX8_sticks 26 = .ok (.ifCond .eq 17, 3) := by decide +kernel
theorem dX8_sticks_29 : decode cX8_sticks 29 = .ok (.aload_n 0, 1) := by decide +kernel
theorem dX8_sticks_30 : decode cX8_sticks 30 = .ok (.getfield 127, 3) := by decide +kernel
theorem dX8_sticks_33 : decode cX8_sticks 33 = .ok (.ifCond .ne 10, 3) := by decide +kernel
theorem dX8_sticks_36 : decode cX8_sticks 36 = .ok (.aload_n 0, 1) := by decide +kernel
theorem dX8_sticks_37 : decode cX8_sticks 37 = .ok (.getfield 114, 3) := by decide +kernel
theorem dX8_sticks_40 : decode cX8_sticks 40 = .ok (.goto 4, 3) := by decide +kernel
theorem dX8_sticks_43 : decode cX8_sticks 43 = .ok (.iconst (-1), 1) := by decide +kernel
theorem dX8_sticks_44 : decode cX8_sticks 44 = .ok (.ireturn, 1) := by decide +kernel
theorem dX8_holds_0 : decode cX8_holds 0 = .ok (.aload_n 0, 1) := by decide +kernel
theorem dX8_holds_1 : decode cX8_holds 1 = .ok (.aload_n 0, 1) := by decide +kernel
theorem dX8_holds_2 : decode cX8_holds 2 = .ok (.iload_n 1, 1) := by decide +kernel
theorem dX8_holds_3 : decode cX8_holds 3 = .ok (.invokevirtual 242, 3) := by decide +kernel
theorem dX8_holds_6 : decode cX8_holds 6 = .ok (.ifCond .ne 7, 3) := by decide +kernel
theorem dX8_holds_9 : decode cX8_holds 9 = .ok (.iconst 1, 1) := by decide +kernel
theorem dX8_holds_10 : decode cX8_holds 10 = .ok (.goto 15, 3) := by decide +kernel
theorem dX8_holds_13 : decode cX8_holds 13 = .ok (.iload_n 2, 1) := by decide +kernel
theorem dX8_holds_14 : decode cX8_holds 14 = .ok (.invokestatic 270, 3) := by decide +kernel
theorem dX8_holds_17 : decode cX8_holds 17 = .ok (.ifCond .eq 7, 3) := by decide +kernel
theorem dX8_holds_20 : decode cX8_holds 20 = .ok (.iconst 0, 1) := by decide +kernel
theorem dX8_holds_21 : decode cX8_holds 21 = .ok (.goto 4, 3) := by decide +kernel
theorem dX8_holds_24 : decode cX8_holds 24 = .ok (.iconst 2, 1) := by decide +kernel
theorem dX8_holds_25 : decode cX8_holds 25 = .ok (.invokevirtual 153, 3) := by decide +kernel
theorem dX8_holds_28 : decode cX8_holds 28 = .ok (.ifCond .eq 5, 3) := by decide +kernel
theorem dX8_holds_31 : decode cX8_holds 31 = .ok (.iconst 0, 1) := by decide +kernel
theorem dX8_holds_32 : decode cX8_holds 32 = .ok (.ireturn, 1) := by decide +kernel
theorem dX8_holds_33 : decode cX8_holds 33 = .ok (.aload_n 0, 1) := by decide +kernel
theorem dX8_holds_34 : decode cX8_holds 34 = .ok (.iload_n 2, 1) := by decide +kernel
theorem dX8_holds_35 : decode cX8_holds 35 = .ok (.invokevirtual 273, 3) := by decide +kernel
theorem dX8_holds_38 : decode cX8_holds 38 = .ok (.ifCond .eq 12, 3) := by decide +kernel
theorem dX8_holds_41 : decode cX8_holds 41 = .ok (.aload_n 0, 1) := by decide +kernel
theorem dX8_holds_42 : decode cX8_holds 42 = .ok (.getfield 51, 3) := by decide +kernel
theorem dX8_holds_45 : decode cX8_holds 45 = .ok (.iload_n 1, 1) := by decide +kernel
theorem dX8_holds_46 : decode cX8_holds 46 = .ok (.iaload, 1) := by decide +kernel
theorem dX8_holds_47 : decode cX8_holds 47 = .ok (.goto 4, 3) := by decide +kernel
theorem dX8_holds_50 : decode cX8_holds 50 = .ok (.iconst (-1), 1) := by decide +kernel
theorem dX8_holds_51 : decode cX8_holds 51 = .ok (.ireturn, 1) := by decide +kernel
theorem dX8_bestRule_0 : decode cX8_bestRule 0 = .ok (.aload_n 0, 1) := by decide +kernel
theorem dX8_bestRule_1 : decode cX8_bestRule 1 = .ok (.iconst 0, 1) := by decide +kernel
theorem dX8_bestRule_2 : decode cX8_bestRule 2 = .ok (.putfield 60, 3) := by decide +kernel
theorem dX8_bestRule_5 : decode cX8_bestRule 5 = .ok (.iconst (-1), 1) := by decide +kernel
theorem dX8_bestRule_6 : decode cX8_bestRule 6 = .ok (.istore_n 1, 1) := by decide +kernel
theorem dX8_bestRule_7 : decode cX8_bestRule 7 = .ok (.iconst 0, 1) := by decide +kernel
theorem dX8_bestRule_8 : decode cX8_bestRule 8 = .ok (.istore_n 2, 1) := by decide +kernel
theorem dX8_bestRule_9 : decode cX8_bestRule 9 = .ok (.iconst 0, 1) := by decide +kernel
theorem dX8_bestRule_10 : decode cX8_bestRule 10 = .ok (.istore_n 3, 1) := by decide +kernel
theorem dX8_bestRule_11 : decode cX8_bestRule 11 = .ok (.iload_n 3, 1) := by decide +kernel
theorem dX8_bestRule_12 : decode cX8_bestRule 12 = .ok (.iconst 3, 1) := by decide +kernel
theorem dX8_bestRule_13 : decode cX8_bestRule 13 = .ok (.if_icmp .ge 112, 3) := by decide +kernel
theorem dX8_bestRule_16 : decode cX8_bestRule 16 = .ok (.aload_n 0, 1) := by decide +kernel
theorem dX8_bestRule_17 : decode cX8_bestRule 17 = .ok (.iload_n 3, 1) := by decide +kernel
theorem dX8_bestRule_18 : decode cX8_bestRule 18 = .ok (.invokevirtual 273, 3) := by decide +kernel
theorem dX8_bestRule_21 : decode cX8_bestRule 21 = .ok (.ifCond .eq 14, 3) := by decide +kernel
theorem dX8_bestRule_24 : decode cX8_bestRule 24 = .ok (.aload_n 0, 1) := by decide +kernel
theorem dX8_bestRule_25 : decode cX8_bestRule 25 = .ok (.getfield 127, 3) := by decide +kernel
theorem dX8_bestRule_28 : decode cX8_bestRule 28 = .ok (.ifCond .eq 7, 3) := by decide +kernel
theorem dX8_bestRule_31 : decode cX8_bestRule 31 = .ok (.iconst 1, 1) := by decide +kernel
theorem dX8_bestRule_32 : decode cX8_bestRule 32 = .ok (.goto 4, 3) := by decide +kernel
theorem dX8_bestRule_35 : decode cX8_bestRule 35 = .ok (.iconst 0, 1) := by decide +kernel
theorem dX8_bestRule_36 : decode cX8_bestRule 36 = .ok (.istore 4, 2) := by decide +kernel
theorem dX8_bestRule_38 : decode cX8_bestRule 38 = .ok (.iconst 0, 1) := by decide +kernel
theorem dX8_bestRule_39 : decode cX8_bestRule 39 = .ok (.istore 5, 2) := by decide +kernel
theorem dX8_bestRule_41 : decode cX8_bestRule 41 = .ok (.iconst 0, 1) := by decide +kernel
theorem dX8_bestRule_42 : decode cX8_bestRule 42 = .ok (.istore 6, 2) := by decide +kernel
theorem dX8_bestRule_44 : decode cX8_bestRule 44 = .ok (.iload 6, 2) := by decide +kernel
theorem dX8_bestRule_46 : decode cX8_bestRule 46 = .ok (.aload_n 0, 1) := by decide +kernel
theorem dX8_bestRule_47 : decode cX8_bestRule 47 = .ok (.getfield 16, 3) := by decide +kernel
theorem dX8_bestRule_50 : decode cX8_bestRule 50 = .ok (.iconst 1, 1) := by decide +kernel
theorem dX8_bestRule_51 : decode cX8_bestRule 51 = .ok (.iaload, 1) := by decide +kernel
theorem dX8_bestRule_52 : decode cX8_bestRule 52 = .ok (.if_icmp .ge 21, 3) := by decide +kernel
theorem dX8_bestRule_55 : decode cX8_bestRule 55 = .ok (.iload 5, 2) := by decide +kernel
theorem dX8_bestRule_57 : decode cX8_bestRule 57 = .ok (.aload_n 0, 1) := by decide +kernel
theorem dX8_bestRule_58 : decode cX8_bestRule 58 = .ok (.getfield 51, 3) := by decide +kernel
theorem dX8_bestRule_61 : decode cX8_bestRule 61 = .ok (.iload 6, 2) := by decide +kernel
theorem dX8_bestRule_63 : decode cX8_bestRule 63 = .ok (.iaload, 1) := by decide +kernel
theorem dX8_bestRule_64 : decode cX8_bestRule 64 = .ok (.iadd, 1) := by decide +kernel
theorem dX8_bestRule_65 : decode cX8_bestRule 65 = .ok (.istore 5, 2) := by decide +kernel
theorem dX8_bestRule_67 : decode cX8_bestRule 67 = .ok (.iinc 6 1, 3) := by decide +kernel
theorem dX8_bestRule_70 : decode cX8_bestRule 70 = .ok (.goto (-26), 3) := by decide +kernel
theorem dX8_bestRule_73 : decode cX8_bestRule 73 = .ok (.iload 4, 2) := by decide +kernel
theorem dX8_bestRule_75 : decode cX8_bestRule 75 = .ok (.ifCond .eq 18, 3) := by decide +kernel
theorem dX8_bestRule_78 : decode cX8_bestRule 78 = .ok (.iload_n 1, 1) := by decide +kernel
theorem dX8_bestRule_79 : decode cX8_bestRule 79 = .ok (.iconst (-1), 1) := by decide +kernel
theorem dX8_bestRule_80 : decode cX8_bestRule 80 = .ok (.if_icmp .eq 9, 3) := by decide +kernel
theorem dX8_bestRule_83 : decode cX8_bestRule 83 = .ok (.iload 5, 2) := by decide +kernel
theorem dX8_bestRule_85 : decode cX8_bestRule 85 = .ok (.iload_n 2, 1) := by decide +kernel
theorem dX8_bestRule_86 : decode cX8_bestRule 86 = .ok (.if_icmp .ge 7, 3) := by decide +kernel
theorem dX8_bestRule_89 : decode cX8_bestRule 89 = .ok (.iconst 1, 1) := by decide +kernel
theorem dX8_bestRule_90 : decode cX8_bestRule 90 = .ok (.goto 4, 3) := by decide +kernel
theorem dX8_bestRule_93 : decode cX8_bestRule 93 = .ok (.iconst 0, 1) := by decide +kernel
theorem dX8_bestRule_94 : decode cX8_bestRule 94 = .ok (.istore 6, 2) := by decide +kernel
theorem dX8_bestRule_96 : decode cX8_bestRule 96 = .ok (.iload 6, 2) := by decide +kernel
theorem dX8_bestRule_98 : decode cX8_bestRule 98 = .ok (.ifCond .eq 7, 3) := by decide +kernel
theorem dX8_bestRule_101 : decode cX8_bestRule 101 = .ok (.iload_n 3, 1) := by decide +kernel
theorem dX8_bestRule_102 : decode cX8_bestRule 102 = .ok (.goto 4, 3) := by decide +kernel
theorem dX8_bestRule_105 : decode cX8_bestRule 105 = .ok (.iload_n 1, 1) := by decide +kernel
theorem dX8_bestRule_106 : decode cX8_bestRule 106 = .ok (.istore_n 1, 1) := by decide +kernel
theorem dX8_bestRule_107 : decode cX8_bestRule 107 = .ok (.iload 6, 2) := by decide +kernel
theorem dX8_bestRule_109 : decode cX8_bestRule 109 = .ok (.ifCond .eq 8, 3) := by decide +kernel
theorem dX8_bestRule_112 : decode cX8_bestRule 112 = .ok (.iload 5, 2) := by decide +kernel
theorem dX8_bestRule_114 : decode cX8_bestRule 114 = .ok (.goto 4, 3) := by decide +kernel
theorem dX8_bestRule_117 : decode cX8_bestRule 117 = .ok (.iload_n 2, 1) := by decide +kernel
theorem dX8_bestRule_118 : decode cX8_bestRule 118 = .ok (.istore_n 2, 1) := by decide +kernel
theorem dX8_bestRule_119 : decode cX8_bestRule 119 = .ok (.iinc 3 1, 3) := by decide +kernel
theorem dX8_bestRule_122 : decode cX8_bestRule 122 = .ok (.goto (-111), 3) := by decide +kernel
theorem dX8_bestRule_125 : decode cX8_bestRule 125 = .ok (.iload_n 1, 1) := by decide +kernel
theorem dX8_bestRule_126 : decode cX8_bestRule 126 = .ok (.ireturn, 1) := by decide +kernel
theorem dX8_fewest_0 : decode cX8_fewest 0 = .ok (.aload_n 0, 1) := by decide +kernel
theorem dX8_fewest_1 : decode cX8_fewest 1 = .ok (.aload_n 0, 1) := by decide +kernel
theorem dX8_fewest_2 : decode cX8_fewest 2 = .ok (.iload_n 1, 1) := by decide +kernel
theorem dX8_fewest_3 : decode cX8_fewest 3 = .ok (.invokevirtual 242, 3) := by decide +kernel
theorem dX8_fewest_6 : decode cX8_fewest 6 = .ok (.ifCond .eq 7, 3) := by decide +kernel
theorem dX8_fewest_9 : decode cX8_fewest 9 = .ok (.iconst 0, 1) := by decide +kernel
theorem dX8_fewest_10 : decode cX8_fewest 10 = .ok (.goto 4, 3) := by decide +kernel
theorem dX8_fewest_13 : decode cX8_fewest 13 = .ok (.iconst 1, 1) := by decide +kernel
theorem dX8_fewest_14 : decode cX8_fewest 14 = .ok (.invokevirtual 153, 3) := by decide +kernel
theorem dX8_fewest_17 : decode cX8_fewest 17 = .ok (.ifCond .eq 5, 3) := by decide +kernel
theorem dX8_fewest_20 : decode cX8_fewest 20 = .ok (.iconst 0, 1) := by decide +kernel
theorem dX8_fewest_21 : decode cX8_fewest 21 = .ok (.ireturn, 1) := by decide +kernel
theorem dX8_fewest_22 : decode cX8_fewest 22 = .ok (.iconst 0, 1) := by decide +kernel
theorem dX8_fewest_23 : decode cX8_fewest 23 = .ok (.istore_n 2, 1) := by decide +kernel
theorem dX8_fewest_24 : decode cX8_fewest 24 = .ok (.iload_n 2, 1) := by decide +kernel
theorem dX8_fewest_25 : decode cX8_fewest 25 = .ok (.bipush 99, 2) := by decide +kernel
theorem dX8_fewest_27 : decode cX8_fewest 27 = .ok (.if_icmp .gt 55, 3) := by decide +kernel
theorem dX8_fewest_30 : decode cX8_fewest 30 = .ok (.aload_n 0, 1) := by decide +kernel
theorem dX8_fewest_31 : decode cX8_fewest 31 = .ok (.invokevirtual 131, 3) := by decide +kernel
theorem dX8_fewest_34 : decode cX8_fewest 34 = .ok (.aload_n 0, 1) := by decide +kernel
theorem dX8_fewest_35 : decode cX8_fewest 35 = .ok (.getfield 19, 3) := by decide +kernel
theorem dX8_fewest_38 : decode cX8_fewest 38 = .ok (.iload_n 1, 1) := by decide +kernel
theorem dX8_fewest_39 : decode cX8_fewest 39 = .ok (.iconst 4, 1) := by decide +kernel
theorem dX8_fewest_40 : decode cX8_fewest 40 = .ok (.invokestatic 73, 3) := by decide +kernel
theorem dX8_fewest_43 : decode cX8_fewest 43 = .ok (.iload_n 2, 1) := by decide +kernel
theorem dX8_fewest_44 : decode cX8_fewest 44 = .ok (.iastore, 1) := by decide +kernel
theorem dX8_fewest_45 : decode cX8_fewest 45 = .ok (.aload_n 0, 1) := by decide +kernel
theorem dX8_fewest_46 : decode cX8_fewest 46 = .ok (.aload_n 0, 1) := by decide +kernel
theorem dX8_fewest_47 : decode cX8_fewest 47 = .ok (.getfield 19, 3) := by decide +kernel
theorem dX8_fewest_50 : decode cX8_fewest 50 = .ok (.invokevirtual 134, 3) := by decide +kernel
theorem dX8_fewest_53 : decode cX8_fewest 53 = .ok (.ifCond .ne 5, 3) := by decide +kernel
theorem dX8_fewest_56 : decode cX8_fewest 56 = .ok (.iconst (-1), 1) := by decide +kernel
theorem dX8_fewest_57 : decode cX8_fewest 57 = .ok (.ireturn, 1) := by decide +kernel
theorem dX8_fewest_58 : decode cX8_fewest 58 = .ok (.aload_n 0, 1) := by decide +kernel
theorem dX8_fewest_59 : decode cX8_fewest 59 = .ok (.aload_n 0, 1) := by decide +kernel
theorem dX8_fewest_60 : decode cX8_fewest 60 = .ok (.getfield 19, 3) := by decide +kernel
theorem dX8_fewest_63 : decode cX8_fewest 63 = .ok (.iconst 0, 1) := by decide +kernel
theorem dX8_fewest_64 : decode cX8_fewest 64 = .ok (.invokevirtual 138, 3) := by decide +kernel
theorem dX8_fewest_67 : decode cX8_fewest 67 = .ok (.aload_n 0, 1) := by decide +kernel
theorem dX8_fewest_68 : decode cX8_fewest 68 = .ok (.getfield 127, 3) := by decide +kernel
theorem dX8_fewest_71 : decode cX8_fewest 71 = .ok (.ifCond .eq 5, 3) := by decide +kernel
theorem dX8_fewest_74 : decode cX8_fewest 74 = .ok (.iload_n 2, 1) := by decide +kernel
theorem dX8_fewest_75 : decode cX8_fewest 75 = .ok (.ireturn, 1) := by decide +kernel
theorem dX8_fewest_76 : decode cX8_fewest 76 = .ok (.iinc 2 1, 3) := by decide +kernel
theorem dX8_fewest_79 : decode cX8_fewest 79 = .ok (.goto (-55), 3) := by decide +kernel
theorem dX8_fewest_82 : decode cX8_fewest 82 = .ok (.iconst (-1), 1) := by decide +kernel
theorem dX8_fewest_83 : decode cX8_fewest 83 = .ok (.ireturn, 1) := by decide +kernel
theorem dX8_agrees_0 : decode cX8_agrees 0 = .ok (.aload_n 0, 1) := by decide +kernel
theorem dX8_agrees_1 : decode cX8_agrees 1 = .ok (.aload_n 0, 1) := by decide +kernel
theorem dX8_agrees_2 : decode cX8_agrees 2 = .ok (.iload_n 1, 1) := by decide +kernel
theorem dX8_agrees_3 : decode cX8_agrees 3 = .ok (.invokevirtual 242, 3) := by decide +kernel
theorem dX8_agrees_6 : decode cX8_agrees 6 = .ok (.ifCond .ne 7, 3) := by decide +kernel
theorem dX8_agrees_9 : decode cX8_agrees 9 = .ok (.iconst 1, 1) := by decide +kernel
theorem dX8_agrees_10 : decode cX8_agrees 10 = .ok (.goto 15, 3) := by decide +kernel
theorem dX8_agrees_13 : decode cX8_agrees 13 = .ok (.iload_n 2, 1) := by decide +kernel
theorem dX8_agrees_14 : decode cX8_agrees 14 = .ok (.invokestatic 259, 3) := by decide +kernel
theorem dX8_agrees_17 : decode cX8_agrees 17 = .ok (.ifCond .eq 7, 3) := by decide +kernel
theorem dX8_agrees_20 : decode cX8_agrees 20 = .ok (.iconst 0, 1) := by decide +kernel
theorem dX8_agrees_21 : decode cX8_agrees 21 = .ok (.goto 4, 3) := by decide +kernel
theorem dX8_agrees_24 : decode cX8_agrees 24 = .ok (.iconst 2, 1) := by decide +kernel
theorem dX8_agrees_25 : decode cX8_agrees 25 = .ok (.invokevirtual 153, 3) := by decide +kernel
theorem dX8_agrees_28 : decode cX8_agrees 28 = .ok (.ifCond .eq 5, 3) := by decide +kernel
theorem dX8_agrees_31 : decode cX8_agrees 31 = .ok (.iconst 0, 1) := by decide +kernel
theorem dX8_agrees_32 : decode cX8_agrees 32 = .ok (.ireturn, 1) := by decide +kernel
theorem dX8_agrees_33 : decode cX8_agrees 33 = .ok (.iconst 1, 1) := by decide +kernel
theorem dX8_agrees_34 : decode cX8_agrees 34 = .ok (.istore_n 3, 1) := by decide +kernel
theorem dX8_agrees_35 : decode cX8_agrees 35 = .ok (.iload_n 3, 1) := by decide +kernel
theorem dX8_agrees_36 : decode cX8_agrees 36 = .ok (.bipush 6, 2) := by decide +kernel
theorem dX8_agrees_38 : decode cX8_agrees 38 = .ok (.if_icmp .gt 48, 3) := by decide +kernel
theorem dX8_agrees_41 : decode cX8_agrees 41 = .ok (.aload_n 0, 1) := by decide +kernel
theorem dX8_agrees_42 : decode cX8_agrees 42 = .ok (.invokevirtual 131, 3) := by decide +kernel
theorem dX8_agrees_45 : decode cX8_agrees 45 = .ok (.aload_n 0, 1) := by decide +kernel
theorem dX8_agrees_46 : decode cX8_agrees 46 = .ok (.getfield 19, 3) := by decide +kernel
theorem dX8_agrees_49 : decode cX8_agrees 49 = .ok (.iload_n 1, 1) := by decide +kernel
theorem dX8_agrees_50 : decode cX8_agrees 50 = .ok (.iconst 2, 1) := by decide +kernel
theorem dX8_agrees_51 : decode cX8_agrees 51 = .ok (.invokestatic 73, 3) := by decide +kernel
theorem dX8_agrees_54 : decode cX8_agrees 54 = .ok (.iload_n 2, 1) := by decide +kernel
theorem dX8_agrees_55 : decode cX8_agrees 55 = .ok (.iastore, 1) := by decide +kernel
theorem dX8_agrees_56 : decode cX8_agrees 56 = .ok (.aload_n 0, 1) := by decide +kernel
theorem dX8_agrees_57 : decode cX8_agrees 57 = .ok (.getfield 19, 3) := by decide +kernel
theorem dX8_agrees_60 : decode cX8_agrees 60 = .ok (.iload_n 1, 1) := by decide +kernel
theorem dX8_agrees_61 : decode cX8_agrees 61 = .ok (.iconst 3, 1) := by decide +kernel
theorem dX8_agrees_62 : decode cX8_agrees 62 = .ok (.invokestatic 73, 3) := by decide +kernel
theorem dX8_agrees_65 : decode cX8_agrees 65 = .ok (.iload_n 3, 1) := by decide +kernel
theorem dX8_agrees_66 : decode cX8_agrees 66 = .ok (.iastore, 1) := by decide +kernel
theorem dX8_agrees_67 : decode cX8_agrees 67 = .ok (.aload_n 0, 1) := by decide +kernel
theorem dX8_agrees_68 : decode cX8_agrees 68 = .ok (.aload_n 0, 1) := by decide +kernel
theorem dX8_agrees_69 : decode cX8_agrees 69 = .ok (.getfield 19, 3) := by decide +kernel
theorem dX8_agrees_72 : decode cX8_agrees 72 = .ok (.invokevirtual 134, 3) := by decide +kernel
theorem dX8_agrees_75 : decode cX8_agrees 75 = .ok (.ifCond .eq 5, 3) := by decide +kernel
theorem dX8_agrees_78 : decode cX8_agrees 78 = .ok (.iload_n 3, 1) := by decide +kernel
theorem dX8_agrees_79 : decode cX8_agrees 79 = .ok (.ireturn, 1) := by decide +kernel
theorem dX8_agrees_80 : decode cX8_agrees 80 = .ok (.iinc 3 1, 3) := by decide +kernel
theorem dX8_agrees_83 : decode cX8_agrees 83 = .ok (.goto (-48), 3) := by decide +kernel
theorem dX8_agrees_86 : decode cX8_agrees 86 = .ok (.iconst (-1), 1) := by decide +kernel
theorem dX8_agrees_87 : decode cX8_agrees 87 = .ok (.ireturn, 1) := by decide +kernel
theorem dX8_lays_0 : decode cX8_lays 0 = .ok (.iload_n 1, 1) := by decide +kernel
theorem dX8_lays_1 : decode cX8_lays 1 = .ok (.aload_n 0, 1) := by decide +kernel
theorem dX8_lays_2 : decode cX8_lays 2 = .ok (.getfield 19, 3) := by decide +kernel
theorem dX8_lays_5 : decode cX8_lays 5 = .ok (.iconst 0, 1) := by decide +kernel
theorem dX8_lays_6 : decode cX8_lays 6 = .ok (.iaload, 1) := by decide +kernel
theorem dX8_lays_7 : decode cX8_lays 7 = .ok (.if_icmp .ge 43, 3) := by decide +kernel
theorem dX8_lays_10 : decode cX8_lays 10 = .ok (.iload_n 2, 1) := by decide +kernel
theorem dX8_lays_11 : decode cX8_lays 11 = .ok (.aload_n 0, 1) := by decide +kernel
theorem dX8_lays_12 : decode cX8_lays 12 = .ok (.getfield 19, 3) := by decide +kernel
theorem dX8_lays_15 : decode cX8_lays 15 = .ok (.iconst 0, 1) := by decide +kernel
theorem dX8_lays_16 : decode cX8_lays 16 = .ok (.iaload, 1) := by decide +kernel
theorem dX8_lays_17 : decode cX8_lays 17 = .ok (.if_icmp .ge 33, 3) := by decide +kernel
theorem dX8_lays_20 : decode cX8_lays 20 = .ok (.iload_n 3, 1) := by decide +kernel
theorem dX8_lays_21 : decode cX8_lays 21 = .ok (.invokestatic 259, 3) := by decide +kernel
theorem dX8_lays_24 : decode cX8_lays 24 = .ok (.ifCond .eq 26, 3) := by decide +kernel
theorem dX8_lays_27 : decode cX8_lays 27 = .ok (.iload 4, 2) := by decide +kernel
theorem dX8_lays_29 : decode cX8_lays 29 = .ok (.invokestatic 259, 3) := by decide +kernel
theorem dX8_lays_32 : decode cX8_lays 32 = .ok (.ifCond .eq 18, 3) := by decide +kernel
theorem dX8_lays_35 : decode cX8_lays 35 = .ok (.aload_n 0, 1) := by decide +kernel
theorem dX8_lays_36 : decode cX8_lays 36 = .ok (.aload_n 0, 1) := by decide +kernel
theorem dX8_lays_37 : decode cX8_lays 37 = .ok (.getfield 19, 3) := by decide +kernel
theorem dX8_lays_40 : decode cX8_lays 40 = .ok (.iload_n 1, 1) := by decide +kernel
theorem dX8_lays_41 : decode cX8_lays 41 = .ok (.iload_n 2, 1) := by decide +kernel
theorem dX8_lays_42 : decode cX8_lays 42 = .ok (.iload 5, 2) := by decide +kernel
theorem dX8_lays_44 : decode cX8_lays 44 = .ok (.invokevirtual 183, 3) := by decide +kernel
theorem dX8_lays_47 : decode cX8_lays 47 = .ok (.ifCond .ne 5, 3) := by decide +kernel
theorem dX8_lays_50 : decode cX8_lays 50 = .ok (.iconst 0, 1) := by decide +kernel
theorem dX8_lays_51 : decode cX8_lays 51 = .ok (.ireturn, 1) := by decide +kernel
theorem dX8_lays_52 : decode cX8_lays 52 = .ok (.aload_n 0, 1) := by decide +kernel
theorem dX8_lays_53 : decode cX8_lays 53 = .ok (.getfield 19, 3) := by decide +kernel
theorem dX8_lays_56 : decode cX8_lays 56 = .ok (.iload_n 1, 1) := by decide +kernel
theorem dX8_lays_57 : decode cX8_lays 57 = .ok (.iload_n 2, 1) := by decide +kernel
theorem dX8_lays_58 : decode cX8_lays 58 = .ok (.iload_n 3, 1) := by decide +kernel
theorem dX8_lays_59 : decode cX8_lays 59 = .ok (.iload 4, 2) := by decide +kernel
theorem dX8_lays_61 : decode cX8_lays 61 = .ok (.iload 5, 2) := by decide +kernel
theorem dX8_lays_63 : decode cX8_lays 63 = .ok (.invokestatic 187, 3) := by decide +kernel
theorem dX8_lays_66 : decode cX8_lays 66 = .ok (.iconst 1, 1) := by decide +kernel
theorem dX8_lays_67 : decode cX8_lays 67 = .ok (.ireturn, 1) := by decide +kernel
theorem dX8_cuts_0 : decode cX8_cuts 0 = .ok (.iload_n 1, 1) := by decide +kernel
theorem dX8_cuts_1 : decode cX8_cuts 1 = .ok (.aload_n 0, 1) := by decide +kernel
theorem dX8_cuts_2 : decode cX8_cuts 2 = .ok (.getfield 19, 3) := by decide +kernel
theorem dX8_cuts_5 : decode cX8_cuts 5 = .ok (.iconst 1, 1) := by decide +kernel
theorem dX8_cuts_6 : decode cX8_cuts 6 = .ok (.iaload, 1) := by decide +kernel
theorem dX8_cuts_7 : decode cX8_cuts 7 = .ok (.if_icmp .lt 5, 3) := by decide +kernel
theorem dX8_cuts_10 : decode cX8_cuts 10 = .ok (.iconst 0, 1) := by decide +kernel
theorem dX8_cuts_11 : decode cX8_cuts 11 = .ok (.ireturn, 1) := by decide +kernel
theorem dX8_cuts_12 : decode cX8_cuts 12 = .ok (.aload_n 0, 1) := by decide +kernel
theorem dX8_cuts_13 : decode cX8_cuts 13 = .ok (.getfield 19, 3) := by decide +kernel
theorem dX8_cuts_16 : decode cX8_cuts 16 = .ok (.iload_n 1, 1) := by decide +kernel
theorem dX8_cuts_17 : decode cX8_cuts 17 = .ok (.invokestatic 191, 3) := by decide +kernel
theorem dX8_cuts_20 : decode cX8_cuts 20 = .ok (.iconst 1, 1) := by decide +kernel
theorem dX8_cuts_21 : decode cX8_cuts 21 = .ok (.ireturn, 1) := by decide +kernel
theorem dX8_puts_0 : decode cX8_puts 0 = .ok (.iload_n 1, 1) := by decide +kernel
theorem dX8_puts_1 : decode cX8_puts 1 = .ok (.aload_n 0, 1) := by decide +kernel
theorem dX8_puts_2 : decode cX8_puts 2 = .ok (.getfield 19, 3) := by decide +kernel
theorem dX8_puts_5 : decode cX8_puts 5 = .ok (.iconst 1, 1) := by decide +kernel
theorem dX8_puts_6 : decode cX8_puts 6 = .ok (.iaload, 1) := by decide +kernel
theorem dX8_puts_7 : decode cX8_puts 7 = .ok (.if_icmp .ge 16, 3) := by decide +kernel
theorem dX8_puts_10 : decode cX8_puts 10 = .ok (.aload_n 0, 1) := by decide +kernel
theorem dX8_puts_11 : decode cX8_puts 11 = .ok (.aload_n 0, 1) := by decide +kernel
theorem dX8_puts_12 : decode cX8_puts 12 = .ok (.getfield 19, 3) := by decide +kernel
theorem dX8_puts_15 : decode cX8_puts 15 = .ok (.iload_n 1, 1) := by decide +kernel
theorem dX8_puts_16 : decode cX8_puts 16 = .ok (.iload_n 2, 1) := by decide +kernel
theorem dX8_puts_17 : decode cX8_puts 17 = .ok (.invokevirtual 265, 3) := by decide +kernel
theorem dX8_puts_20 : decode cX8_puts 20 = .ok (.ifCond .ne 5, 3) := by decide +kernel
theorem dX8_puts_23 : decode cX8_puts 23 = .ok (.iconst 0, 1) := by decide +kernel
theorem dX8_puts_24 : decode cX8_puts 24 = .ok (.ireturn, 1) := by decide +kernel
theorem dX8_puts_25 : decode cX8_puts 25 = .ok (.aload_n 0, 1) := by decide +kernel
theorem dX8_puts_26 : decode cX8_puts 26 = .ok (.getfield 19, 3) := by decide +kernel
theorem dX8_puts_29 : decode cX8_puts 29 = .ok (.iload_n 1, 1) := by decide +kernel
theorem dX8_puts_30 : decode cX8_puts 30 = .ok (.iconst 4, 1) := by decide +kernel
theorem dX8_puts_31 : decode cX8_puts 31 = .ok (.invokestatic 73, 3) := by decide +kernel
theorem dX8_puts_34 : decode cX8_puts 34 = .ok (.iload_n 2, 1) := by decide +kernel
theorem dX8_puts_35 : decode cX8_puts 35 = .ok (.iastore, 1) := by decide +kernel
theorem dX8_puts_36 : decode cX8_puts 36 = .ok (.iconst 1, 1) := by decide +kernel
theorem dX8_puts_37 : decode cX8_puts 37 = .ok (.ireturn, 1) := by decide +kernel
theorem dX8_worksOne_0 : decode cX8_worksOne 0 = .ok (.iload_n 1, 1) := by decide +kernel
theorem dX8_worksOne_1 : decode cX8_worksOne 1 = .ok (.aload_n 0, 1) := by decide +kernel
theorem dX8_worksOne_2 : decode cX8_worksOne 2 = .ok (.getfield 19, 3) := by decide +kernel
theorem dX8_worksOne_5 : decode cX8_worksOne 5 = .ok (.iconst 0, 1) := by decide +kernel
theorem dX8_worksOne_6 : decode cX8_worksOne 6 = .ok (.iaload, 1) := by decide +kernel
theorem dX8_worksOne_7 : decode cX8_worksOne 7 = .ok (.if_icmp .ge 14, 3) := by decide +kernel
theorem dX8_worksOne_10 : decode cX8_worksOne 10 = .ok (.aload_n 0, 1) := by decide +kernel
theorem dX8_worksOne_11 : decode cX8_worksOne 11 = .ok (.getfield 19, 3) := by decide +kernel
theorem dX8_worksOne_14 : decode cX8_worksOne 14 = .ok (.iload_n 1, 1) := by decide +kernel
theorem dX8_worksOne_15 : decode cX8_worksOne 15 = .ok (.invokestatic 106, 3) := by decide +kernel
theorem dX8_worksOne_18 : decode cX8_worksOne 18 = .ok (.ifCond .ne 5, 3) := by decide +kernel
theorem dX8_worksOne_21 : decode cX8_worksOne 21 = .ok (.iconst 0, 1) := by decide +kernel
theorem dX8_worksOne_22 : decode cX8_worksOne 22 = .ok (.ireturn, 1) := by decide +kernel
theorem dX8_worksOne_23 : decode cX8_worksOne 23 = .ok (.aload_n 0, 1) := by decide +kernel
theorem dX8_worksOne_24 : decode cX8_worksOne 24 = .ok (.getfield 19, 3) := by decide +kernel
theorem dX8_worksOne_27 : decode cX8_worksOne 27 = .ok (.iload_n 1, 1) := by decide +kernel
theorem dX8_worksOne_28 : decode cX8_worksOne 28 = .ok (.invokestatic 124, 3) := by decide +kernel
theorem dX8_worksOne_31 : decode cX8_worksOne 31 = .ok (.iconst 1, 1) := by decide +kernel
theorem dX8_worksOne_32 : decode cX8_worksOne 32 = .ok (.ireturn, 1) := by decide +kernel
theorem dX8_rounds_0 : decode cX8_rounds 0 = .ok (.iload_n 1, 1) := by decide +kernel
theorem dX8_rounds_1 : decode cX8_rounds 1 = .ok (.invokestatic 270, 3) := by decide +kernel
theorem dX8_rounds_4 : decode cX8_rounds 4 = .ok (.ifCond .eq 14, 3) := by decide +kernel
theorem dX8_rounds_7 : decode cX8_rounds 7 = .ok (.aload_n 0, 1) := by decide +kernel
theorem dX8_rounds_8 : decode cX8_rounds 8 = .ok (.aload_n 0, 1) := by decide +kernel
theorem dX8_rounds_9 : decode cX8_rounds 9 = .ok (.getfield 19, 3) := by decide +kernel
theorem dX8_rounds_12 : decode cX8_rounds 12 = .ok (.invokevirtual 134, 3) := by decide +kernel
theorem dX8_rounds_15 : decode cX8_rounds 15 = .ok (.ifCond .ne 5, 3) := by decide +kernel
theorem dX8_rounds_18 : decode cX8_rounds 18 = .ok (.iconst 0, 1) := by decide +kernel
theorem dX8_rounds_19 : decode cX8_rounds 19 = .ok (.ireturn, 1) := by decide +kernel
theorem dX8_rounds_20 : decode cX8_rounds 20 = .ok (.aload_n 0, 1) := by decide +kernel
theorem dX8_rounds_21 : decode cX8_rounds 21 = .ok (.getfield 19, 3) := by decide +kernel
theorem dX8_rounds_24 : decode cX8_rounds 24 = .ok (.iconst 0, 1) := by decide +kernel
theorem dX8_rounds_25 : decode cX8_rounds 25 = .ok (.aload_n 0, 1) := by decide +kernel
theorem dX8_rounds_26 : decode cX8_rounds 26 = .ok (.getfield 57, 3) := by decide +kernel
theorem dX8_rounds_29 : decode cX8_rounds 29 = .ok (.iconst 0, 1) := by decide +kernel
theorem dX8_rounds_30 : decode cX8_rounds 30 = .ok (.bipush 96, 2) := by decide +kernel
theorem dX8_rounds_32 : decode cX8_rounds 32 = .ok (.invokestatic 69, 3) := by decide +kernel
theorem dX8_rounds_35 : decode cX8_rounds 35 = .ok (.aload_n 0, 1) := by decide +kernel
theorem dX8_rounds_36 : decode cX8_rounds 36 = .ok (.aload_n 0, 1) := by decide +kernel
theorem dX8_rounds_37 : decode cX8_rounds 37 = .ok (.getfield 19, 3) := by decide +kernel
theorem dX8_rounds_40 : decode cX8_rounds 40 = .ok (.iload_n 1, 1) := by decide +kernel
theorem dX8_rounds_41 : decode cX8_rounds 41 = .ok (.invokevirtual 138, 3) := by decide +kernel
theorem dX8_rounds_44 : decode cX8_rounds 44 = .ok (.aload_n 0, 1) := by decide +kernel
theorem dX8_rounds_45 : decode cX8_rounds 45 = .ok (.getfield 127, 3) := by decide +kernel
theorem dX8_rounds_48 : decode cX8_rounds 48 = .ok (.ifCond .ne 18, 3) := by decide +kernel
theorem dX8_rounds_51 : decode cX8_rounds 51 = .ok (.aload_n 0, 1) := by decide +kernel
theorem dX8_rounds_52 : decode cX8_rounds 52 = .ok (.getfield 57, 3) := by decide +kernel
theorem dX8_rounds_55 : decode cX8_rounds 55 = .ok (.iconst 0, 1) := by decide +kernel
theorem dX8_rounds_56 : decode cX8_rounds 56 = .ok (.aload_n 0, 1) := by decide +kernel
theorem dX8_rounds_57 : decode cX8_rounds 57 = .ok (.getfield 19, 3) := by decide +kernel
theorem dX8_rounds_60 : decode cX8_rounds 60 = .ok (.iconst 0, 1) := by decide +kernel
theorem dX8_rounds_61 : decode cX8_rounds 61 = .ok (.bipush 96, 2) := by decide +kernel
theorem dX8_rounds_63 : decode cX8_rounds 63 = .ok (.invokestatic 69, 3) := by decide +kernel
theorem dX8_rounds_66 : decode cX8_rounds 66 = .ok (.aload_n 0, 1) := by decide +kernel
theorem dX8_rounds_67 : decode cX8_rounds 67 = .ok (.getfield 127, 3) := by decide +kernel
theorem dX8_rounds_70 : decode cX8_rounds 70 = .ok (.ireturn, 1) := by decide +kernel
theorem dX8_does_0 : decode cX8_does 0 = .ok (.iload_n 1, 1) := by decide +kernel
theorem dX8_does_1 : decode cX8_does 1 = .ok (.ldc_w 276, 3) := by decide +kernel
theorem dX8_does_4 : decode cX8_does 4 = .ok (.idiv, 1) := by decide +kernel
theorem dX8_does_5 : decode cX8_does 5 = .ok (.istore_n 2, 1) := by decide +kernel
theorem dX8_does_6 : decode cX8_does 6 = .ok (.iload_n 1, 1) := by decide +kernel
theorem dX8_does_7 : decode cX8_does 7 = .ok (.ldc_w 276, 3) := by decide +kernel
theorem dX8_does_10 : decode cX8_does 10 = .ok (.irem, 1) := by decide +kernel
theorem dX8_does_11 : decode cX8_does 11 = .ok (.istore_n 3, 1) := by decide +kernel
theorem dX8_does_12 : decode cX8_does 12 = .ok (.iload_n 1, 1) := by decide +kernel
theorem dX8_does_13 : decode cX8_does 13 = .ok (.bipush 100, 2) := by decide +kernel
theorem dX8_does_15 : decode cX8_does 15 = .ok (.irem, 1) := by decide +kernel
theorem dX8_does_16 : decode cX8_does 16 = .ok (.istore 4, 2) := by decide +kernel
theorem dX8_does_18 : decode cX8_does 18 = .ok (.iload_n 3, 1) := by decide +kernel
theorem dX8_does_19 : decode cX8_does 19 = .ok (.bipush 100, 2) := by decide +kernel
theorem dX8_does_21 : decode cX8_does 21 = .ok (.idiv, 1) := by decide +kernel
theorem dX8_does_22 : decode cX8_does 22 = .ok (.bipush 100, 2) := by decide +kernel
theorem dX8_does_24 : decode cX8_does 24 = .ok (.irem, 1) := by decide +kernel
theorem dX8_does_25 : decode cX8_does 25 = .ok (.istore 5, 2) := by decide +kernel
theorem dX8_does_27 : decode cX8_does 27 = .ok (.iload_n 2, 1) := by decide +kernel
theorem dX8_does_28 : decode cX8_does 28 = .ok (.tableswitch 302 1 9 #[52, 88, 109, 133, 153, 173, 194, 234, 258], 52) := by decide +kernel
theorem dX8_does_80 : decode cX8_does 80 = .ok (.aload_n 0, 1) := by decide +kernel
theorem dX8_does_81 : decode cX8_does 81 = .ok (.iload_n 3, 1) := by decide +kernel
theorem dX8_does_82 : decode cX8_does 82 = .ok (.sipush 10000, 3) := by decide +kernel
theorem dX8_does_85 : decode cX8_does 85 = .ok (.idiv, 1) := by decide +kernel
theorem dX8_does_86 : decode cX8_does 86 = .ok (.iload_n 3, 1) := by decide +kernel
theorem dX8_does_87 : decode cX8_does 87 = .ok (.sipush 1000, 3) := by decide +kernel
theorem dX8_does_90 : decode cX8_does 90 = .ok (.idiv, 1) := by decide +kernel
theorem dX8_does_91 : decode cX8_does 91 = .ok (.bipush 10, 2) := by decide +kernel
theorem dX8_does_93 : decode cX8_does 93 = .ok (.irem, 1) := by decide +kernel
theorem dX8_does_94 : decode cX8_does 94 = .ok (.iload_n 3, 1) := by decide +kernel
theorem dX8_does_95 : decode cX8_does 95 = .ok (.bipush 100, 2) := by decide +kernel
theorem dX8_does_97 : decode cX8_does 97 = .ok (.idiv, 1) := by decide +kernel
theorem dX8_does_98 : decode cX8_does 98 = .ok (.bipush 10, 2) := by decide +kernel
theorem dX8_does_100 : decode cX8_does 100 = .ok (.irem, 1) := by decide +kernel
theorem dX8_does_101 : decode cX8_does 101 = .ok (.iload_n 3, 1) := by decide +kernel
theorem dX8_does_102 : decode cX8_does 102 = .ok (.bipush 10, 2) := by decide +kernel
theorem dX8_does_104 : decode cX8_does 104 = .ok (.idiv, 1) := by decide +kernel
theorem dX8_does_105 : decode cX8_does 105 = .ok (.bipush 10, 2) := by decide +kernel
theorem dX8_does_107 : decode cX8_does 107 = .ok (.irem, 1) := by decide +kernel
theorem dX8_does_108 : decode cX8_does 108 = .ok (.iload_n 3, 1) := by decide +kernel
theorem dX8_does_109 : decode cX8_does 109 = .ok (.bipush 10, 2) := by decide +kernel
theorem dX8_does_111 : decode cX8_does 111 = .ok (.irem, 1) := by decide +kernel
theorem dX8_does_112 : decode cX8_does 112 = .ok (.invokevirtual 277, 3) := by decide +kernel
theorem dX8_does_115 : decode cX8_does 115 = .ok (.ireturn, 1) := by decide +kernel
theorem dX8_does_116 : decode cX8_does 116 = .ok (.iload_n 3, 1) := by decide +kernel
theorem dX8_does_117 : decode cX8_does 117 = .ok (.bipush 100, 2) := by decide +kernel
theorem dX8_does_119 : decode cX8_does 119 = .ok (.if_icmp .ge 16, 3) := by decide +kernel
theorem dX8_does_122 : decode cX8_does 122 = .ok (.aload_n 0, 1) := by decide +kernel
theorem dX8_does_123 : decode cX8_does 123 = .ok (.iload 4, 2) := by decide +kernel
theorem dX8_does_125 : decode cX8_does 125 = .ok (.invokevirtual 281, 3) := by decide +kernel
theorem dX8_does_128 : decode cX8_does 128 = .ok (.ifCond .eq 7, 3) := by decide +kernel
theorem dX8_does_131 : decode cX8_does 131 = .ok (.iconst 1, 1) := by decide +kernel
theorem dX8_does_132 : decode cX8_does 132 = .ok (.goto 4, 3) := by decide +kernel
theorem dX8_does_135 : decode cX8_does 135 = .ok (.iconst 0, 1) := by decide +kernel
theorem dX8_does_136 : decode cX8_does 136 = .ok (.ireturn, 1) := by decide +kernel
theorem dX8_does_137 : decode cX8_does 137 = .ok (.iload_n 3, 1) := by decide +kernel
theorem dX8_does_138 : decode cX8_does 138 = .ok (.sipush 10000, 3) := by decide +kernel
theorem dX8_does_141 : decode cX8_does 141 = .ok (.if_icmp .ge 18, 3) := by decide +kernel
theorem dX8_does_144 : decode cX8_does 144 = .ok (.aload_n 0, 1) := by decide +kernel
theorem dX8_does_145 : decode cX8_does 145 = .ok (.iload 5, 2) := by decide +kernel
theorem dX8_does_147 : decode cX8_does 147 = .ok (.iload 4, 2) := by decide +kernel
theorem dX8_does_149 : decode cX8_does 149 = .ok (.invokevirtual 284, 3) := by decide +kernel
theorem dX8_does_152 : decode cX8_does 152 = .ok (.ifCond .eq 7, 3) := by decide +kernel
theorem dX8_does_155 : decode cX8_does 155 = .ok (.iconst 1, 1) := by decide +kernel
theorem dX8_does_156 : decode cX8_does 156 = .ok (.goto 4, 3) := by decide +kernel
theorem dX8_does_159 : decode cX8_does 159 = .ok (.iconst 0, 1) := by decide +kernel
theorem dX8_does_160 : decode cX8_does 160 = .ok (.ireturn, 1) := by decide +kernel
theorem dX8_does_161 : decode cX8_does 161 = .ok (.iload_n 3, 1) := by decide +kernel
theorem dX8_does_162 : decode cX8_does 162 = .ok (.bipush 10, 2) := by decide +kernel
theorem dX8_does_164 : decode cX8_does 164 = .ok (.if_icmp .ge 15, 3) := by decide +kernel
theorem dX8_does_167 : decode cX8_does 167 = .ok (.aload_n 0, 1) := by decide +kernel
theorem dX8_does_168 : decode cX8_does 168 = .ok (.iload_n 3, 1) := by decide +kernel
theorem dX8_does_169 : decode cX8_does 169 = .ok (.invokevirtual 288, 3) := by decide +kernel
theorem dX8_does_172 : decode cX8_does 172 = .ok (.ifCond .eq 7, 3) := by decide +kernel
theorem dX8_does_175 : decode cX8_does 175 = .ok (.iconst 1, 1) := by decide +kernel
theorem dX8_does_176 : decode cX8_does 176 = .ok (.goto 4, 3) := by decide +kernel
theorem dX8_does_179 : decode cX8_does 179 = .ok (.iconst 0, 1) := by decide +kernel
theorem dX8_does_180 : decode cX8_does 180 = .ok (.ireturn, 1) := by decide +kernel
theorem dX8_does_181 : decode cX8_does 181 = .ok (.iload_n 3, 1) := by decide +kernel
theorem dX8_does_182 : decode cX8_does 182 = .ok (.bipush 10, 2) := by decide +kernel
theorem dX8_does_184 : decode cX8_does 184 = .ok (.if_icmp .ge 15, 3) := by decide +kernel
theorem dX8_does_187 : decode cX8_does 187 = .ok (.aload_n 0, 1) := by decide +kernel
theorem dX8_does_188 : decode cX8_does 188 = .ok (.iload_n 3, 1) := by decide +kernel
theorem dX8_does_189 : decode cX8_does 189 = .ok (.invokevirtual 291, 3) := by decide +kernel
theorem dX8_does_192 : decode cX8_does 192 = .ok (.ifCond .eq 7, 3) := by decide +kernel
theorem dX8_does_195 : decode cX8_does 195 = .ok (.iconst 1, 1) := by decide +kernel
theorem dX8_does_196 : decode cX8_does 196 = .ok (.goto 4, 3) := by decide +kernel
theorem dX8_does_199 : decode cX8_does 199 = .ok (.iconst 0, 1) := by decide +kernel
theorem dX8_does_200 : decode cX8_does 200 = .ok (.ireturn, 1) := by decide +kernel
theorem dX8_does_201 : decode cX8_does 201 = .ok (.iload_n 3, 1) := by decide +kernel
theorem dX8_does_202 : decode cX8_does 202 = .ok (.ifCond .ne 18, 3) := by decide +kernel
theorem dX8_does_205 : decode cX8_does 205 = .ok (.aload_n 0, 1) := by decide +kernel
theorem dX8_does_206 : decode cX8_does 206 = .ok (.aload_n 0, 1) := by decide +kernel
theorem dX8_does_207 : decode cX8_does 207 = .ok (.getfield 19, 3) := by decide +kernel
theorem dX8_does_210 : decode cX8_does 210 = .ok (.invokevirtual 134, 3) := by decide +kernel
theorem dX8_does_213 : decode cX8_does 213 = .ok (.ifCond .eq 7, 3) := by decide +kernel
theorem dX8_does_216 : decode cX8_does 216 = .ok (.iconst 1, 1) := by decide +kernel
theorem dX8_does_217 : decode cX8_does 217 = .ok (.goto 4, 3) := by decide +kernel
theorem dX8_does_220 : decode cX8_does 220 = .ok (.iconst 0, 1) := by decide +kernel
theorem dX8_does_221 : decode cX8_does 221 = .ok (.ireturn, 1) := by decide +kernel
theorem dX8_does_222 : decode cX8_does 222 = .ok (.iload_n 3, 1) := by decide +kernel
theorem dX8_does_223 : decode cX8_does 223 = .ok (.sipush 10000, 3) := by decide +kernel
theorem dX8_does_226 : decode cX8_does 226 = .ok (.if_icmp .ge 34, 3) := by decide +kernel
theorem dX8_does_229 : decode cX8_does 229 = .ok (.iload 5, 2) := by decide +kernel
theorem dX8_does_231 : decode cX8_does 231 = .ok (.aload_n 0, 1) := by decide +kernel
theorem dX8_does_232 : decode cX8_does 232 = .ok (.getfield 19, 3) := by decide +kernel
theorem dX8_does_235 : decode cX8_does 235 = .ok (.iconst 1, 1) := by decide +kernel
theorem dX8_does_236 : decode cX8_does 236 = .ok (.iaload, 1) := by decide +kernel
theorem dX8_does_237 : decode cX8_does 237 = .ok (.if_icmp .ge 23, 3) := by decide +kernel
theorem dX8_does_240 : decode cX8_does 240 = .ok (.aload_n 0, 1) := by decide +kernel
theorem dX8_does_241 : decode cX8_does 241 = .ok (.getfield 19, 3) := by decide +kernel
theorem dX8_does_244 : decode cX8_does 244 = .ok (.iload 5, 2) := by decide +kernel
theorem dX8_does_246 : decode cX8_does 246 = .ok (.iconst 4, 1) := by decide +kernel
theorem dX8_does_247 : decode cX8_does 247 = .ok (.invokestatic 73, 3) := by decide +kernel
theorem dX8_does_250 : decode cX8_does 250 = .ok (.iaload, 1) := by decide +kernel
theorem dX8_does_251 : decode cX8_does 251 = .ok (.iload 4, 2) := by decide +kernel
theorem dX8_does_253 : decode cX8_does 253 = .ok (.if_icmp .lt 7, 3) := by decide +kernel
theorem dX8_does_256 : decode cX8_does 256 = .ok (.iconst 1, 1) := by decide +kernel
theorem dX8_does_257 : decode cX8_does 257 = .ok (.goto 4, 3) := by decide +kernel
theorem dX8_does_260 : decode cX8_does 260 = .ok (.iconst 0, 1) := by decide +kernel
theorem dX8_does_261 : decode cX8_does 261 = .ok (.ireturn, 1) := by decide +kernel
theorem dX8_does_262 : decode cX8_does 262 = .ok (.iload_n 3, 1) := by decide +kernel
theorem dX8_does_263 : decode cX8_does 263 = .ok (.sipush 1000, 3) := by decide +kernel
theorem dX8_does_266 : decode cX8_does 266 = .ok (.if_icmp .ge 18, 3) := by decide +kernel
theorem dX8_does_269 : decode cX8_does 269 = .ok (.aload_n 0, 1) := by decide +kernel
theorem dX8_does_270 : decode cX8_does 270 = .ok (.getfield 19, 3) := by decide +kernel
theorem dX8_does_273 : decode cX8_does 273 = .ok (.invokestatic 218, 3) := by decide +kernel
theorem dX8_does_276 : decode cX8_does 276 = .ok (.iload_n 3, 1) := by decide +kernel
theorem dX8_does_277 : decode cX8_does 277 = .ok (.if_icmp .gt 7, 3) := by decide +kernel
theorem dX8_does_280 : decode cX8_does 280 = .ok (.iconst 1, 1) := by decide +kernel
theorem dX8_does_281 : decode cX8_does 281 = .ok (.goto 4, 3) := by decide +kernel
theorem dX8_does_284 : decode cX8_does 284 = .ok (.iconst 0, 1) := by decide +kernel
theorem dX8_does_285 : decode cX8_does 285 = .ok (.ireturn, 1) := by decide +kernel
theorem dX8_does_286 : decode cX8_does 286 = .ok (.iload_n 3, 1) := by decide +kernel
theorem dX8_does_287 : decode cX8_does 287 = .ok (.sipush 1000, 3) := by decide +kernel
theorem dX8_does_290 : decode cX8_does 290 = .ok (.if_icmp .ge 38, 3) := by decide +kernel
theorem dX8_does_293 : decode cX8_does 293 = .ok (.iload_n 3, 1) := by decide +kernel
theorem dX8_does_294 : decode cX8_does 294 = .ok (.bipush 100, 2) := by decide +kernel
theorem dX8_does_296 : decode cX8_does 296 = .ok (.idiv, 1) := by decide +kernel
theorem dX8_does_297 : decode cX8_does 297 = .ok (.aload_n 0, 1) := by decide +kernel
theorem dX8_does_298 : decode cX8_does 298 = .ok (.getfield 19, 3) := by decide +kernel
theorem dX8_does_301 : decode cX8_does 301 = .ok (.iconst 0, 1) := by decide +kernel
theorem dX8_does_302 : decode cX8_does 302 = .ok (.iaload, 1) := by decide +kernel
theorem dX8_does_303 : decode cX8_does 303 = .ok (.if_icmp .ge 25, 3) := by decide +kernel
theorem dX8_does_306 : decode cX8_does 306 = .ok (.aload_n 0, 1) := by decide +kernel
theorem dX8_does_307 : decode cX8_does 307 = .ok (.getfield 19, 3) := by decide +kernel
theorem dX8_does_310 : decode cX8_does 310 = .ok (.iload_n 3, 1) := by decide +kernel
theorem dX8_does_311 : decode cX8_does 311 = .ok (.bipush 100, 2) := by decide +kernel
theorem dX8_does_313 : decode cX8_does 313 = .ok (.idiv, 1) := by decide +kernel
theorem dX8_does_314 : decode cX8_does 314 = .ok (.iconst 2, 1) := by decide +kernel
theorem dX8_does_315 : decode cX8_does 315 = .ok (.invokestatic 77, 3) := by decide +kernel
theorem dX8_does_318 : decode cX8_does 318 = .ok (.iaload, 1) := by decide +kernel
theorem dX8_does_319 : decode cX8_does 319 = .ok (.iload 4, 2) := by decide +kernel
theorem dX8_does_321 : decode cX8_does 321 = .ok (.if_icmp .lt 7, 3) := by decide +kernel
theorem dX8_does_324 : decode cX8_does 324 = .ok (.iconst 1, 1) := by decide +kernel
theorem dX8_does_325 : decode cX8_does 325 = .ok (.goto 4, 3) := by decide +kernel
theorem dX8_does_328 : decode cX8_does 328 = .ok (.iconst 0, 1) := by decide +kernel
theorem dX8_does_329 : decode cX8_does 329 = .ok (.ireturn, 1) := by decide +kernel
theorem dX8_does_330 : decode cX8_does 330 = .ok (.iconst 0, 1) := by decide +kernel
theorem dX8_does_331 : decode cX8_does 331 = .ok (.ireturn, 1) := by decide +kernel
theorem dX8_runScript_0 : decode cX8_runScript 0 = .ok (.iload_n 1, 1) := by decide +kernel
theorem dX8_runScript_1 : decode cX8_runScript 1 = .ok (.i2l, 1) := by decide +kernel
theorem dX8_runScript_2 : decode cX8_runScript 2 = .ok (.lconst 1, 1) := by decide +kernel
theorem dX8_runScript_3 : decode cX8_runScript 3 = .ok (.ldc2_w 247, 3) := by decide +kernel
theorem dX8_runScript_6 : decode cX8_runScript 6 = .ok (.invokestatic 146, 3) := by decide +kernel
theorem dX8_runScript_9 : decode cX8_runScript 9 = .ok (.istore 4, 2) := by decide +kernel
theorem dX8_runScript_11 : decode cX8_runScript 11 = .ok (.aload_n 0, 1) := by decide +kernel
theorem dX8_runScript_12 : decode cX8_runScript 12 = .ok (.iload 4, 2) := by decide +kernel
theorem dX8_runScript_14 : decode cX8_runScript 14 = .ok (.ifCond .eq 33, 3) := by decide +kernel
theorem dX8_runScript_17 : decode cX8_runScript 17 = .ok (.lload_n 2, 1) := by decide +kernel
theorem dX8_runScript_18 : decode cX8_runScript 18 = .ok (.lconst 0, 1) := by decide +kernel
theorem dX8_runScript_19 : decode cX8_runScript 19 = .ok (.iload 4, 2) := by decide +kernel
theorem dX8_runScript_21 : decode cX8_runScript 21 = .ok (.ifCond .eq 10, 3) := by decide +kernel
theorem dX8_runScript_24 : decode cX8_runScript 24 = .ok (.bipush 6, 2) := by decide +kernel
theorem dX8_runScript_26 : decode cX8_runScript 26 = .ok (.iload_n 1, 1) := by decide +kernel
theorem dX8_runScript_27 : decode cX8_runScript 27 = .ok (.imul, 1) := by decide +kernel
theorem dX8_runScript_28 : decode cX8_runScript 28 = .ok (.goto 4, 3) := by decide +kernel
theorem dX8_runScript_31 : decode cX8_runScript 31 = .ok (.iconst 0, 1) := by decide +kernel
theorem dX8_runScript_32 : decode cX8_runScript 32 = .ok (.invokestatic 294, 3) := by decide +kernel
theorem dX8_runScript_35 : decode cX8_runScript 35 = .ok (.lconst 1, 1) := by decide +kernel
theorem dX8_runScript_36 : decode cX8_runScript 36 = .ok (.lsub, 1) := by decide +kernel
theorem dX8_runScript_37 : decode cX8_runScript 37 = .ok (.invokestatic 146, 3) := by decide +kernel
theorem dX8_runScript_40 : decode cX8_runScript 40 = .ok (.ifCond .eq 7, 3) := by decide +kernel
theorem dX8_runScript_43 : decode cX8_runScript 43 = .ok (.iconst 0, 1) := by decide +kernel
theorem dX8_runScript_44 : decode cX8_runScript 44 = .ok (.goto 4, 3) := by decide +kernel
theorem dX8_runScript_47 : decode cX8_runScript 47 = .ok (.iconst 1, 1) := by decide +kernel
theorem dX8_runScript_48 : decode cX8_runScript 48 = .ok (.invokevirtual 153, 3) := by decide +kernel
theorem dX8_runScript_51 : decode cX8_runScript 51 = .ok (.ifCond .eq 5, 3) := by decide +kernel
theorem dX8_runScript_54 : decode cX8_runScript 54 = .ok (.iconst 0, 1) := by decide +kernel
theorem dX8_runScript_55 : decode cX8_runScript 55 = .ok (.ireturn, 1) := by decide +kernel
theorem dX8_runScript_56 : decode cX8_runScript 56 = .ok (.aload_n 0, 1) := by decide +kernel
theorem dX8_runScript_57 : decode cX8_runScript 57 = .ok (.invokevirtual 131, 3) := by decide +kernel
theorem dX8_runScript_60 : decode cX8_runScript 60 = .ok (.iconst 0, 1) := by decide +kernel
theorem dX8_runScript_61 : decode cX8_runScript 61 = .ok (.istore 5, 2) := by decide +kernel
theorem dX8_runScript_63 : decode cX8_runScript 63 = .ok (.iload 5, 2) := by decide +kernel
theorem dX8_runScript_65 : decode cX8_runScript 65 = .ok (.iload_n 1, 1) := by decide +kernel
theorem dX8_runScript_66 : decode cX8_runScript 66 = .ok (.if_icmp .ge 38, 3) := by decide +kernel
theorem dX8_runScript_69 : decode cX8_runScript 69 = .ok (.aload_n 0, 1) := by decide +kernel
theorem dX8_runScript_70 : decode cX8_runScript 70 = .ok (.lload_n 2, 1) := by decide +kernel
theorem dX8_runScript_71 : decode cX8_runScript 71 = .ok (.bipush 6, 2) := by decide +kernel
theorem dX8_runScript_73 : decode cX8_runScript 73 = .ok (.iload_n 1, 1) := by decide +kernel
theorem dX8_runScript_74 : decode cX8_runScript 74 = .ok (.iconst 1, 1) := by decide +kernel
theorem dX8_runScript_75 : decode cX8_runScript 75 = .ok (.isub, 1) := by decide +kernel
theorem dX8_runScript_76 : decode cX8_runScript 76 = .ok (.iload 5, 2) := by decide +kernel
theorem dX8_runScript_78 : decode cX8_runScript 78 = .ok (.isub, 1) := by decide +kernel
theorem dX8_runScript_79 : decode cX8_runScript 79 = .ok (.imul, 1) := by decide +kernel
theorem dX8_runScript_80 : decode cX8_runScript 80 = .ok (.invokestatic 294, 3) := by decide +kernel
theorem dX8_runScript_83 : decode cX8_runScript 83 = .ok (.ldiv, 1) := by decide +kernel
theorem dX8_runScript_84 : decode cX8_runScript 84 = .ok (.ldc2_w 298, 3) := by decide +kernel
theorem dX8_runScript_87 : decode cX8_runScript 87 = .ok (.lrem, 1) := by decide +kernel
theorem dX8_runScript_88 : decode cX8_runScript 88 = .ok (.l2i, 1) := by decide +kernel
theorem dX8_runScript_89 : decode cX8_runScript 89 = .ok (.invokevirtual 300, 3) := by decide +kernel
theorem dX8_runScript_92 : decode cX8_runScript 92 = .ok (.ifCond .ne 6, 3) := by decide +kernel
theorem dX8_runScript_95 : decode cX8_runScript 95 = .ok (.iload 5, 2) := by decide +kernel
theorem dX8_runScript_97 : decode cX8_runScript 97 = .ok (.ireturn, 1) := by decide +kernel
theorem dX8_runScript_98 : decode cX8_runScript 98 = .ok (.iinc 5 1, 3) := by decide +kernel
theorem dX8_runScript_101 : decode cX8_runScript 101 = .ok (.goto (-38), 3) := by decide +kernel
theorem dX8_runScript_104 : decode cX8_runScript 104 = .ok (.iconst (-1), 1) := by decide +kernel
theorem dX8_runScript_105 : decode cX8_runScript 105 = .ok (.ireturn, 1) := by decide +kernel
theorem dX8_stir_0 : decode cX8_stir 0 = .ok (.iload_n 1, 1) := by decide +kernel
theorem dX8_stir_1 : decode cX8_stir 1 = .ok (.bipush 8, 2) := by decide +kernel
theorem dX8_stir_3 : decode cX8_stir 3 = .ok (.idiv, 1) := by decide +kernel
theorem dX8_stir_4 : decode cX8_stir 4 = .ok (.bipush 8, 2) := by decide +kernel
theorem dX8_stir_6 : decode cX8_stir 6 = .ok (.irem, 1) := by decide +kernel
theorem dX8_stir_7 : decode cX8_stir 7 = .ok (.istore_n 2, 1) := by decide +kernel
theorem dX8_stir_8 : decode cX8_stir 8 = .ok (.iload_n 1, 1) := by decide +kernel
theorem dX8_stir_9 : decode cX8_stir 9 = .ok (.bipush 8, 2) := by decide +kernel
theorem dX8_stir_11 : decode cX8_stir 11 = .ok (.irem, 1) := by decide +kernel
theorem dX8_stir_12 : decode cX8_stir 12 = .ok (.tableswitch 101 0 2 #[28, 70, 86], 28) := by decide +kernel
theorem dX8_stir_40 : decode cX8_stir 40 = .ok (.aload_n 0, 1) := by decide +kernel
theorem dX8_stir_41 : decode cX8_stir 41 = .ok (.iload_n 2, 1) := by decide +kernel
theorem dX8_stir_42 : decode cX8_stir 42 = .ok (.iload_n 1, 1) := by decide +kernel
theorem dX8_stir_43 : decode cX8_stir 43 = .ok (.bipush 64, 2) := by decide +kernel
theorem dX8_stir_45 : decode cX8_stir 45 = .ok (.idiv, 1) := by decide +kernel
theorem dX8_stir_46 : decode cX8_stir 46 = .ok (.bipush 8, 2) := by decide +kernel
theorem dX8_stir_48 : decode cX8_stir 48 = .ok (.irem, 1) := by decide +kernel
theorem dX8_stir_49 : decode cX8_stir 49 = .ok (.iconst 1, 1) := by decide +kernel
theorem dX8_stir_50 : decode cX8_stir 50 = .ok (.iload_n 1, 1) := by decide +kernel
theorem dX8_stir_51 : decode cX8_stir 51 = .ok (.sipush 512, 3) := by decide +kernel
theorem dX8_stir_54 : decode cX8_stir 54 = .ok (.idiv, 1) := by decide +kernel
theorem dX8_stir_55 : decode cX8_stir 55 = .ok (.iconst 3, 1) := by decide +kernel
theorem dX8_stir_56 : decode cX8_stir 56 = .ok (.irem, 1) := by decide +kernel
theorem dX8_stir_57 : decode cX8_stir 57 = .ok (.iadd, 1) := by decide +kernel
theorem dX8_stir_58 : decode cX8_stir 58 = .ok (.iconst 1, 1) := by decide +kernel
theorem dX8_stir_59 : decode cX8_stir 59 = .ok (.iload_n 1, 1) := by decide +kernel
theorem dX8_stir_60 : decode cX8_stir 60 = .ok (.sipush 2048, 3) := by decide +kernel
theorem dX8_stir_63 : decode cX8_stir 63 = .ok (.idiv, 1) := by decide +kernel
theorem dX8_stir_64 : decode cX8_stir 64 = .ok (.iconst 3, 1) := by decide +kernel
theorem dX8_stir_65 : decode cX8_stir 65 = .ok (.irem, 1) := by decide +kernel
theorem dX8_stir_66 : decode cX8_stir 66 = .ok (.iadd, 1) := by decide +kernel
theorem dX8_stir_67 : decode cX8_stir 67 = .ok (.iload_n 1, 1) := by decide +kernel
theorem dX8_stir_68 : decode cX8_stir 68 = .ok (.sipush 8192, 3) := by decide +kernel
theorem dX8_stir_71 : decode cX8_stir 71 = .ok (.idiv, 1) := by decide +kernel
theorem dX8_stir_72 : decode cX8_stir 72 = .ok (.bipush 8, 2) := by decide +kernel
theorem dX8_stir_74 : decode cX8_stir 74 = .ok (.irem, 1) := by decide +kernel
theorem dX8_stir_75 : decode cX8_stir 75 = .ok (.invokevirtual 277, 3) := by decide +kernel
theorem dX8_stir_78 : decode cX8_stir 78 = .ok (.pop, 1) := by decide +kernel
theorem dX8_stir_79 : decode cX8_stir 79 = .ok (.goto 40, 3) := by decide +kernel
theorem dX8_stir_82 : decode cX8_stir 82 = .ok (.aload_n 0, 1) := by decide +kernel
theorem dX8_stir_83 : decode cX8_stir 83 = .ok (.iload_n 1, 1) := by decide +kernel
theorem dX8_stir_84 : decode cX8_stir 84 = .ok (.sipush 512, 3) := by decide +kernel
theorem dX8_stir_87 : decode cX8_stir 87 = .ok (.idiv, 1) := by decide +kernel
theorem dX8_stir_88 : decode cX8_stir 88 = .ok (.bipush 14, 2) := by decide +kernel
theorem dX8_stir_90 : decode cX8_stir 90 = .ok (.irem, 1) := by decide +kernel
theorem dX8_stir_91 : decode cX8_stir 91 = .ok (.invokevirtual 281, 3) := by decide +kernel
theorem dX8_stir_94 : decode cX8_stir 94 = .ok (.pop, 1) := by decide +kernel
theorem dX8_stir_95 : decode cX8_stir 95 = .ok (.goto 24, 3) := by decide +kernel
theorem dX8_stir_98 : decode cX8_stir 98 = .ok (.aload_n 0, 1) := by decide +kernel
theorem dX8_stir_99 : decode cX8_stir 99 = .ok (.iload_n 1, 1) := by decide +kernel
theorem dX8_stir_100 : decode cX8_stir 100 = .ok (.sipush 512, 3) := by decide +kernel
theorem dX8_stir_103 : decode cX8_stir 103 = .ok (.idiv, 1) := by decide +kernel
theorem dX8_stir_104 : decode cX8_stir 104 = .ok (.iconst 3, 1) := by decide +kernel
theorem dX8_stir_105 : decode cX8_stir 105 = .ok (.irem, 1) := by decide +kernel
theorem dX8_stir_106 : decode cX8_stir 106 = .ok (.invokevirtual 291, 3) := by decide +kernel
theorem dX8_stir_109 : decode cX8_stir 109 = .ok (.pop, 1) := by decide +kernel
theorem dX8_stir_110 : decode cX8_stir 110 = .ok (.goto 9, 3) := by decide +kernel
theorem dX8_stir_113 : decode cX8_stir 113 = .ok (.aload_n 0, 1) := by decide +kernel
theorem dX8_stir_114 : decode cX8_stir 114 = .ok (.iload_n 2, 1) := by decide +kernel
theorem dX8_stir_115 : decode cX8_stir 115 = .ok (.invokevirtual 288, 3) := by decide +kernel
theorem dX8_stir_118 : decode cX8_stir 118 = .ok (.pop, 1) := by decide +kernel
theorem dX8_stir_119 : decode cX8_stir 119 = .ok (.return_, 1) := by decide +kernel
theorem dX8_simulate_0 : decode cX8_simulate 0 = .ok (.aload_n 0, 1) := by decide +kernel
theorem dX8_simulate_1 : decode cX8_simulate 1 = .ok (.iload_n 3, 1) := by decide +kernel
theorem dX8_simulate_2 : decode cX8_simulate 2 = .ok (.i2l, 1) := by decide +kernel
theorem dX8_simulate_3 : decode cX8_simulate 3 = .ok (.lconst 1, 1) := by decide +kernel
theorem dX8_simulate_4 : decode cX8_simulate 4 = .ok (.ldc2_w 257, 3) := by decide +kernel
theorem dX8_simulate_7 : decode cX8_simulate 7 = .ok (.invokestatic 146, 3) := by decide +kernel
theorem dX8_simulate_10 : decode cX8_simulate 10 = .ok (.ifCond .eq 7, 3) := by decide +kernel
theorem dX8_simulate_13 : decode cX8_simulate 13 = .ok (.iconst 0, 1) := by decide +kernel
theorem dX8_simulate_14 : decode cX8_simulate 14 = .ok (.goto 4, 3) := by decide +kernel
theorem dX8_simulate_17 : decode cX8_simulate 17 = .ok (.iconst 1, 1) := by decide +kernel
theorem dX8_simulate_18 : decode cX8_simulate 18 = .ok (.invokevirtual 153, 3) := by decide +kernel
theorem dX8_simulate_21 : decode cX8_simulate 21 = .ok (.ifCond .eq 5, 3) := by decide +kernel
theorem dX8_simulate_24 : decode cX8_simulate 24 = .ok (.iconst 0, 1) := by decide +kernel
theorem dX8_simulate_25 : decode cX8_simulate 25 = .ok (.ireturn, 1) := by decide +kernel
theorem dX8_simulate_26 : decode cX8_simulate 26 = .ok (.aload_n 0, 1) := by decide +kernel
theorem dX8_simulate_27 : decode cX8_simulate 27 = .ok (.invokevirtual 131, 3) := by decide +kernel
theorem dX8_simulate_30 : decode cX8_simulate 30 = .ok (.lload_n 1, 1) := by decide +kernel
theorem dX8_simulate_31 : decode cX8_simulate 31 = .ok (.lstore 4, 2) := by decide +kernel
theorem dX8_simulate_33 : decode cX8_simulate 33 = .ok (.iconst 0, 1) := by decide +kernel
theorem dX8_simulate_34 : decode cX8_simulate 34 = .ok (.istore 6, 2) := by decide +kernel
theorem dX8_simulate_36 : decode cX8_simulate 36 = .ok (.iload 6, 2) := by decide +kernel
theorem dX8_simulate_38 : decode cX8_simulate 38 = .ok (.iload_n 3, 1) := by decide +kernel
theorem dX8_simulate_39 : decode cX8_simulate 39 = .ok (.if_icmp .ge 31, 3) := by decide +kernel
theorem dX8_simulate_42 : decode cX8_simulate 42 = .ok (.lload 4, 2) := by decide +kernel
theorem dX8_simulate_44 : decode cX8_simulate 44 = .ok (.ldc2_w 303, 3) := by decide +kernel
theorem dX8_simulate_47 : decode cX8_simulate 47 = .ok (.lmul, 1) := by decide +kernel
theorem dX8_simulate_48 : decode cX8_simulate 48 = .ok (.ldc2_w 305, 3) := by decide +kernel
theorem dX8_simulate_51 : decode cX8_simulate 51 = .ok (.ladd, 1) := by decide +kernel
theorem dX8_simulate_52 : decode cX8_simulate 52 = .ok (.lstore 4, 2) := by decide +kernel
theorem dX8_simulate_54 : decode cX8_simulate 54 = .ok (.aload_n 0, 1) := by decide +kernel
theorem dX8_simulate_55 : decode cX8_simulate 55 = .ok (.lload 4, 2) := by decide +kernel
theorem dX8_simulate_57 : decode cX8_simulate 57 = .ok (.bipush 33, 2) := by decide +kernel
theorem dX8_simulate_59 : decode cX8_simulate 59 = .ok (.lushr, 1) := by decide +kernel
theorem dX8_simulate_60 : decode cX8_simulate 60 = .ok (.l2i, 1) := by decide +kernel
theorem dX8_simulate_61 : decode cX8_simulate 61 = .ok (.invokevirtual 307, 3) := by decide +kernel
theorem dX8_simulate_64 : decode cX8_simulate 64 = .ok (.iinc 6 1, 3) := by decide +kernel
theorem dX8_simulate_67 : decode cX8_simulate 67 = .ok (.goto (-31), 3) := by decide +kernel
theorem dX8_simulate_70 : decode cX8_simulate 70 = .ok (.aload_n 0, 1) := by decide +kernel
theorem dX8_simulate_71 : decode cX8_simulate 71 = .ok (.getfield 19, 3) := by decide +kernel
theorem dX8_simulate_74 : decode cX8_simulate 74 = .ok (.invokestatic 222, 3) := by decide +kernel
theorem dX8_simulate_77 : decode cX8_simulate 77 = .ok (.aload_n 0, 1) := by decide +kernel
theorem dX8_simulate_78 : decode cX8_simulate 78 = .ok (.getfield 16, 3) := by decide +kernel
theorem dX8_simulate_81 : decode cX8_simulate 81 = .ok (.invokestatic 222, 3) := by decide +kernel
theorem dX8_simulate_84 : decode cX8_simulate 84 = .ok (.isub, 1) := by decide +kernel
theorem dX8_simulate_85 : decode cX8_simulate 85 = .ok (.istore 6, 2) := by decide +kernel
theorem dX8_simulate_87 : decode cX8_simulate 87 = .ok (.aload_n 0, 1) := by decide +kernel
theorem dX8_simulate_88 : decode cX8_simulate 88 = .ok (.getfield 19, 3) := by decide +kernel
theorem dX8_simulate_91 : decode cX8_simulate 91 = .ok (.invokestatic 218, 3) := by decide +kernel
theorem dX8_simulate_94 : decode cX8_simulate 94 = .ok (.istore 7, 2) := by decide +kernel
theorem dX8_simulate_96 : decode cX8_simulate 96 = .ok (.sipush 1000, 3) := by decide +kernel
theorem dX8_simulate_99 : decode cX8_simulate 99 = .ok (.iload 6, 2) := by decide +kernel
theorem dX8_simulate_101 : decode cX8_simulate 101 = .ok (.sipush 999, 3) := by decide +kernel
theorem dX8_simulate_104 : decode cX8_simulate 104 = .ok (.if_icmp .le 9, 3) := by decide +kernel
theorem dX8_simulate_107 : decode cX8_simulate 107 = .ok (.sipush 999, 3) := by decide +kernel
theorem dX8_simulate_110 : decode cX8_simulate 110 = .ok (.goto 5, 3) := by decide +kernel
theorem dX8_simulate_113 : decode cX8_simulate 113 = .ok (.iload 6, 2) := by decide +kernel
theorem dX8_simulate_115 : decode cX8_simulate 115 = .ok (.imul, 1) := by decide +kernel
theorem dX8_simulate_116 : decode cX8_simulate 116 = .ok (.iload 7, 2) := by decide +kernel
theorem dX8_simulate_118 : decode cX8_simulate 118 = .ok (.sipush 999, 3) := by decide +kernel
theorem dX8_simulate_121 : decode cX8_simulate 121 = .ok (.if_icmp .le 9, 3) := by decide +kernel
theorem dX8_simulate_124 : decode cX8_simulate 124 = .ok (.sipush 999, 3) := by decide +kernel
theorem dX8_simulate_127 : decode cX8_simulate 127 = .ok (.goto 5, 3) := by decide +kernel
theorem dX8_simulate_130 : decode cX8_simulate 130 = .ok (.iload 7, 2) := by decide +kernel
theorem dX8_simulate_132 : decode cX8_simulate 132 = .ok (.iadd, 1) := by decide +kernel
theorem dX8_simulate_133 : decode cX8_simulate 133 = .ok (.ireturn, 1) := by decide +kernel
theorem dX8_save_0 : decode cX8_save 0 = .ok (.aload_n 0, 1) := by decide +kernel
theorem dX8_save_1 : decode cX8_save 1 = .ok (.iload_n 1, 1) := by decide +kernel
theorem dX8_save_2 : decode cX8_save 2 = .ok (.i2l, 1) := by decide +kernel
theorem dX8_save_3 : decode cX8_save 3 = .ok (.lconst 0, 1) := by decide +kernel
theorem dX8_save_4 : decode cX8_save 4 = .ok (.lconst 1, 1) := by decide +kernel
theorem dX8_save_5 : decode cX8_save 5 = .ok (.invokestatic 146, 3) := by decide +kernel
theorem dX8_save_8 : decode cX8_save 8 = .ok (.ifCond .eq 7, 3) := by decide +kernel
theorem dX8_save_11 : decode cX8_save 11 = .ok (.iconst 0, 1) := by decide +kernel
theorem dX8_save_12 : decode cX8_save 12 = .ok (.goto 4, 3) := by decide +kernel
theorem dX8_save_15 : decode cX8_save 15 = .ok (.iconst 1, 1) := by decide +kernel
theorem dX8_save_16 : decode cX8_save 16 = .ok (.invokevirtual 153, 3) := by decide +kernel
theorem dX8_save_19 : decode cX8_save 19 = .ok (.ifCond .eq 5, 3) := by decide +kernel
theorem dX8_save_22 : decode cX8_save 22 = .ok (.iconst 0, 1) := by decide +kernel
theorem dX8_save_23 : decode cX8_save 23 = .ok (.ireturn, 1) := by decide +kernel
theorem dX8_save_24 : decode cX8_save 24 = .ok (.aload_n 0, 1) := by decide +kernel
theorem dX8_save_25 : decode cX8_save 25 = .ok (.getfield 16, 3) := by decide +kernel
theorem dX8_save_28 : decode cX8_save 28 = .ok (.iconst 0, 1) := by decide +kernel
theorem dX8_save_29 : decode cX8_save 29 = .ok (.aload_n 0, 1) := by decide +kernel
theorem dX8_save_30 : decode cX8_save 30 = .ok (.getfield 25, 3) := by decide +kernel
theorem dX8_save_33 : decode cX8_save 33 = .ok (.bipush 96, 2) := by decide +kernel
theorem dX8_save_35 : decode cX8_save 35 = .ok (.iload_n 1, 1) := by decide +kernel
theorem dX8_save_36 : decode cX8_save 36 = .ok (.imul, 1) := by decide +kernel
theorem dX8_save_37 : decode cX8_save 37 = .ok (.bipush 96, 2) := by decide +kernel
theorem dX8_save_39 : decode cX8_save 39 = .ok (.invokestatic 69, 3) := by decide +kernel
theorem dX8_save_42 : decode cX8_save 42 = .ok (.aload_n 0, 1) := by decide +kernel
theorem dX8_save_43 : decode cX8_save 43 = .ok (.getfield 28, 3) := by decide +kernel
theorem dX8_save_46 : decode cX8_save 46 = .ok (.iload_n 1, 1) := by decide +kernel
theorem dX8_save_47 : decode cX8_save 47 = .ok (.iconst 1, 1) := by decide +kernel
theorem dX8_save_48 : decode cX8_save 48 = .ok (.bastore, 1) := by decide +kernel
theorem dX8_save_49 : decode cX8_save 49 = .ok (.aload_n 0, 1) := by decide +kernel
theorem dX8_save_50 : decode cX8_save 50 = .ok (.getfield 16, 3) := by decide +kernel
theorem dX8_save_53 : decode cX8_save 53 = .ok (.iconst 1, 1) := by decide +kernel
theorem dX8_save_54 : decode cX8_save 54 = .ok (.iaload, 1) := by decide +kernel
theorem dX8_save_55 : decode cX8_save 55 = .ok (.ireturn, 1) := by decide +kernel
theorem dX8_restore_0 : decode cX8_restore 0 = .ok (.aload_n 0, 1) := by decide +kernel
theorem dX8_restore_1 : decode cX8_restore 1 = .ok (.iload_n 1, 1) := by decide +kernel
theorem dX8_restore_2 : decode cX8_restore 2 = .ok (.i2l, 1) := by decide +kernel
theorem dX8_restore_3 : decode cX8_restore 3 = .ok (.lconst 0, 1) := by decide +kernel
theorem dX8_restore_4 : decode cX8_restore 4 = .ok (.lconst 1, 1) := by decide +kernel
theorem dX8_restore_5 : decode cX8_restore 5 = .ok (.invokestatic 146, 3) := by decide +kernel
theorem dX8_restore_8 : decode cX8_restore 8 = .ok (.ifCond .ne 7, 3) := by decide +kernel
theorem dX8_restore_11 : decode cX8_restore 11 = .ok (.iconst 1, 1) := by decide +kernel
theorem dX8_restore_12 : decode cX8_restore 12 = .ok (.goto 17, 3) := by decide +kernel
theorem dX8_restore_15 : decode cX8_restore 15 = .ok (.aload_n 0, 1) := by decide +kernel
theorem dX8_restore_16 : decode cX8_restore 16 = .ok (.getfield 28, 3) := by decide +kernel
theorem dX8_restore_19 : decode cX8_restore 19 = .ok (.iload_n 1, 1) := by decide +kernel
theorem dX8_restore_20 : decode cX8_restore 20 = .ok (.baload, 1) := by decide +kernel
theorem dX8_restore_21 : decode cX8_restore 21 = .ok (.ifCond .eq 7, 3) := by decide +kernel
theorem dX8_restore_24 : decode cX8_restore 24 = .ok (.iconst 0, 1) := by decide +kernel
theorem dX8_restore_25 : decode cX8_restore 25 = .ok (.goto 4, 3) := by decide +kernel
theorem dX8_restore_28 : decode cX8_restore 28 = .ok (.iconst 2, 1) := by decide +kernel
theorem dX8_restore_29 : decode cX8_restore 29 = .ok (.invokevirtual 153, 3) := by decide +kernel
theorem dX8_restore_32 : decode cX8_restore 32 = .ok (.ifCond .eq 5, 3) := by decide +kernel
theorem dX8_restore_35 : decode cX8_restore 35 = .ok (.iconst 0, 1) := by decide +kernel
theorem dX8_restore_36 : decode cX8_restore 36 = .ok (.ireturn, 1) := by decide +kernel
theorem dX8_restore_37 : decode cX8_restore 37 = .ok (.aload_n 0, 1) := by decide +kernel
theorem dX8_restore_38 : decode cX8_restore 38 = .ok (.getfield 25, 3) := by decide +kernel
theorem dX8_restore_41 : decode cX8_restore 41 = .ok (.bipush 96, 2) := by decide +kernel
theorem dX8_restore_43 : decode cX8_restore 43 = .ok (.iload_n 1, 1) := by decide +kernel
theorem dX8_restore_44 : decode cX8_restore 44 = .ok (.imul, 1) := by decide +kernel
theorem dX8_restore_45 : decode cX8_restore 45 = .ok (.aload_n 0, 1) := by decide +kernel
theorem dX8_restore_46 : decode cX8_restore 46 = .ok (.getfield 16, 3) := by decide +kernel
theorem dX8_restore_49 : decode cX8_restore 49 = .ok (.iconst 0, 1) := by decide +kernel
theorem dX8_restore_50 : decode cX8_restore 50 = .ok (.bipush 96, 2) := by decide +kernel
theorem dX8_restore_52 : decode cX8_restore 52 = .ok (.invokestatic 69, 3) := by decide +kernel
theorem dX8_restore_55 : decode cX8_restore 55 = .ok (.aload_n 0, 1) := by decide +kernel
theorem dX8_restore_56 : decode cX8_restore 56 = .ok (.iconst 0, 1) := by decide +kernel
theorem dX8_restore_57 : decode cX8_restore 57 = .ok (.putfield 66, 3) := by decide +kernel
theorem dX8_restore_60 : decode cX8_restore 60 = .ok (.aload_n 0, 1) := by decide +kernel
theorem dX8_restore_61 : decode cX8_restore 61 = .ok (.getfield 16, 3) := by decide +kernel
theorem dX8_restore_64 : decode cX8_restore 64 = .ok (.iconst 1, 1) := by decide +kernel
theorem dX8_restore_65 : decode cX8_restore 65 = .ok (.iaload, 1) := by decide +kernel
theorem dX8_restore_66 : decode cX8_restore 66 = .ok (.ireturn, 1) := by decide +kernel
