theorem dX0_init_0 : decode cX0_init 0 = .ok (.aload_n 0, 1) := by decide +kernel
theorem dX0_init_1 : decode cX0_init 1 = .ok (.invokespecial 3, 3) := by decide +kernel
theorem dX0_init_4 : decode cX0_init 4 = .ok (.aload_n 0, 1) := by decide +kernel
theorem dX0_init_5 : decode cX0_init 5 = .ok (.new 9, 3) := by decide +kernel
theorem dX0_init_8 : decode cX0_init 8 = .ok (.dup, 1) := by decide +kernel
theorem dX0_init_9 : decode cX0_init 9 = .ok (.invokespecial 11, 3) := by decide +kernel
theorem dX0_init_12 : decode cX0_init 12 = .ok (.putfield 12, 3) := by decide +kernel
theorem dX0_init_15 : decode cX0_init 15 = .ok (.aload_n 0, 1) := by decide +kernel
theorem dX0_init_16 : decode cX0_init 16 = .ok (.new 18, 3) := by decide +kernel
theorem dX0_init_19 : decode cX0_init 19 = .ok (.dup, 1) := by decide +kernel
theorem dX0_init_20 : decode cX0_init 20 = .ok (.invokespecial 20, 3) := by decide +kernel
theorem dX0_init_23 : decode cX0_init 23 = .ok (.putfield 21, 3) := by decide +kernel
theorem dX0_init_26 : decode cX0_init 26 = .ok (.aload_n 0, 1) := by decide +kernel
theorem dX0_init_27 : decode cX0_init 27 = .ok (.bipush 8, 2) := by decide +kernel
theorem dX0_init_29 : decode cX0_init 29 = .ok (.newarray .int, 2) := by decide +kernel
theorem dX0_init_31 : decode cX0_init 31 = .ok (.putfield 25, 3) := by decide +kernel
theorem dX0_init_34 : decode cX0_init 34 = .ok (.aload_n 0, 1) := by decide +kernel
theorem dX0_init_35 : decode cX0_init 35 = .ok (.bipush 8, 2) := by decide +kernel
theorem dX0_init_37 : decode cX0_init 37 = .ok (.newarray .int, 2) := by decide +kernel
theorem dX0_init_39 : decode cX0_init 39 = .ok (.putfield 29, 3) := by decide +kernel
theorem dX0_init_42 : decode cX0_init 42 = .ok (.aload_n 0, 1) := by decide +kernel
theorem dX0_init_43 : decode cX0_init 43 = .ok (.sipush 480, 3) := by decide +kernel
theorem dX0_init_46 : decode cX0_init 46 = .ok (.newarray .int, 2) := by decide +kernel
theorem dX0_init_48 : decode cX0_init 48 = .ok (.putfield 32, 3) := by decide +kernel
theorem dX0_init_51 : decode cX0_init 51 = .ok (.aload_n 0, 1) := by decide +kernel
theorem dX0_init_52 : decode cX0_init 52 = .ok (.bipush 14, 2) := by decide +kernel
theorem dX0_init_54 : decode cX0_init 54 = .ok (.newarray .int, 2) := by decide +kernel
theorem dX0_init_56 : decode cX0_init 56 = .ok (.putfield 35, 3) := by decide +kernel
theorem dX0_init_59 : decode cX0_init 59 = .ok (.return_, 1) := by decide +kernel
theorem dX0_follow_0 : decode cX0_follow 0 = .ok (.aload_n 0, 1) := by decide +kernel
theorem dX0_follow_1 : decode cX0_follow 1 = .ok (.getfield 21, 3) := by decide +kernel
theorem dX0_follow_4 : decode cX0_follow 4 = .ok (.aload_n 1, 1) := by decide +kernel
theorem dX0_follow_5 : decode cX0_follow 5 = .ok (.invokevirtual 38, 3) := by decide +kernel
theorem dX0_follow_8 : decode cX0_follow 8 = .ok (.aload_n 0, 1) := by decide +kernel
theorem dX0_follow_9 : decode cX0_follow 9 = .ok (.aload_n 0, 1) := by decide +kernel
theorem dX0_follow_10 : decode cX0_follow 10 = .ok (.getfield 12, 3) := by decide +kernel
theorem dX0_follow_13 : decode cX0_follow 13 = .ok (.aload_n 0, 1) := by decide +kernel
theorem dX0_follow_14 : decode cX0_follow 14 = .ok (.getfield 21, 3) := by decide +kernel
theorem dX0_follow_17 : decode cX0_follow 17 = .ok (.invokevirtual 42, 3) := by decide +kernel
theorem dX0_follow_20 : decode cX0_follow 20 = .ok (.putfield 46, 3) := by decide +kernel
theorem dX0_follow_23 : decode cX0_follow 23 = .ok (.aload_n 0, 1) := by decide +kernel
theorem dX0_follow_24 : decode cX0_follow 24 = .ok (.aload_n 0, 1) := by decide +kernel
theorem dX0_follow_25 : decode cX0_follow 25 = .ok (.getfield 46, 3) := by decide +kernel
theorem dX0_follow_28 : decode cX0_follow 28 = .ok (.ifCond .eq 13, 3) := by decide +kernel
theorem dX0_follow_31 : decode cX0_follow 31 = .ok (.aload_n 0, 1) := by decide +kernel
theorem dX0_follow_32 : decode cX0_follow 32 = .ok (.getfield 12, 3) := by decide +kernel
theorem dX0_follow_35 : decode cX0_follow 35 = .ok (.invokevirtual 50, 3) := by decide +kernel
theorem dX0_follow_38 : decode cX0_follow 38 = .ok (.goto 4, 3) := by decide +kernel
theorem dX0_follow_41 : decode cX0_follow 41 = .ok (.iconst 0, 1) := by decide +kernel
theorem dX0_follow_42 : decode cX0_follow 42 = .ok (.putfield 54, 3) := by decide +kernel
theorem dX0_follow_45 : decode cX0_follow 45 = .ok (.aload_n 0, 1) := by decide +kernel
theorem dX0_follow_46 : decode cX0_follow 46 = .ok (.iconst 0, 1) := by decide +kernel
theorem dX0_follow_47 : decode cX0_follow 47 = .ok (.putfield 57, 3) := by decide +kernel
theorem dX0_follow_50 : decode cX0_follow 50 = .ok (.aload_n 0, 1) := by decide +kernel
theorem dX0_follow_51 : decode cX0_follow 51 = .ok (.getfield 46, 3) := by decide +kernel
theorem dX0_follow_54 : decode cX0_follow 54 = .ok (.ifCond .ne 4, 3) := by decide +kernel
theorem dX0_follow_57 : decode cX0_follow 57 = .ok (.return_, 1) := by decide +kernel
theorem dX0_follow_58 : decode cX0_follow 58 = .ok (.iconst 0, 1) := by decide +kernel
theorem dX0_follow_59 : decode cX0_follow 59 = .ok (.istore_n 3, 1) := by decide +kernel
theorem dX0_follow_60 : decode cX0_follow 60 = .ok (.iload_n 3, 1) := by decide +kernel
theorem dX0_follow_61 : decode cX0_follow 61 = .ok (.aload_n 0, 1) := by decide +kernel
theorem dX0_follow_62 : decode cX0_follow 62 = .ok (.getfield 21, 3) := by decide +kernel
theorem dX0_follow_65 : decode cX0_follow 65 = .ok (.getfield 60, 3) := by decide +kernel
theorem dX0_follow_68 : decode cX0_follow 68 = .ok (.if_icmp .ge 38, 3) := by decide +kernel
theorem dX0_follow_71 : decode cX0_follow 71 = .ok (.aload_n 0, 1) := by decide +kernel
theorem dX0_follow_72 : decode cX0_follow 72 = .ok (.getfield 25, 3) := by decide +kernel
theorem dX0_follow_75 : decode cX0_follow 75 = .ok (.iload_n 3, 1) := by decide +kernel
theorem dX0_follow_76 : decode cX0_follow 76 = .ok (.aload_n 0, 1) := by decide +kernel
theorem dX0_follow_77 : decode cX0_follow 77 = .ok (.getfield 12, 3) := by decide +kernel
theorem dX0_follow_80 : decode cX0_follow 80 = .ok (.getfield 63, 3) := by decide +kernel
theorem dX0_follow_83 : decode cX0_follow 83 = .ok (.iload_n 3, 1) := by decide +kernel
theorem dX0_follow_84 : decode cX0_follow 84 = .ok (.iaload, 1) := by decide +kernel
theorem dX0_follow_85 : decode cX0_follow 85 = .ok (.iastore, 1) := by decide +kernel
theorem dX0_follow_86 : decode cX0_follow 86 = .ok (.aload_n 0, 1) := by decide +kernel
theorem dX0_follow_87 : decode cX0_follow 87 = .ok (.getfield 29, 3) := by decide +kernel
theorem dX0_follow_90 : decode cX0_follow 90 = .ok (.iload_n 3, 1) := by decide +kernel
theorem dX0_follow_91 : decode cX0_follow 91 = .ok (.aload_n 0, 1) := by decide +kernel
theorem dX0_follow_92 : decode cX0_follow 92 = .ok (.getfield 21, 3) := by decide +kernel
theorem dX0_follow_95 : decode cX0_follow 95 = .ok (.iload_n 3, 1) := by decide +kernel
theorem dX0_follow_96 : decode cX0_follow 96 = .ok (.invokevirtual 66, 3) := by decide +kernel
theorem dX0_follow_99 : decode cX0_follow 99 = .ok (.iastore, 1) := by decide +kernel
theorem dX0_follow_100 : decode cX0_follow 100 = .ok (.iinc 3 1, 3) := by decide +kernel
theorem dX0_follow_103 : decode cX0_follow 103 = .ok (.goto (-43), 3) := by decide +kernel
theorem dX0_follow_106 : decode cX0_follow 106 = .ok (.iconst 0, 1) := by decide +kernel
theorem dX0_follow_107 : decode cX0_follow 107 = .ok (.istore_n 3, 1) := by decide +kernel
theorem dX0_follow_108 : decode cX0_follow 108 = .ok (.iload_n 3, 1) := by decide +kernel
theorem dX0_follow_109 : decode cX0_follow 109 = .ok (.aload_n 0, 1) := by decide +kernel
theorem dX0_follow_110 : decode cX0_follow 110 = .ok (.getfield 21, 3) := by decide +kernel
theorem dX0_follow_113 : decode cX0_follow 113 = .ok (.getfield 70, 3) := by decide +kernel
theorem dX0_follow_116 : decode cX0_follow 116 = .ok (.if_icmp .ge 24, 3) := by decide +kernel
theorem dX0_follow_119 : decode cX0_follow 119 = .ok (.aload_n 0, 1) := by decide +kernel
theorem dX0_follow_120 : decode cX0_follow 120 = .ok (.getfield 35, 3) := by decide +kernel
theorem dX0_follow_123 : decode cX0_follow 123 = .ok (.iload_n 3, 1) := by decide +kernel
theorem dX0_follow_124 : decode cX0_follow 124 = .ok (.aload_n 0, 1) := by decide +kernel
theorem dX0_follow_125 : decode cX0_follow 125 = .ok (.getfield 21, 3) := by decide +kernel
theorem dX0_follow_128 : decode cX0_follow 128 = .ok (.getfield 73, 3) := by decide +kernel
theorem dX0_follow_131 : decode cX0_follow 131 = .ok (.iload_n 3, 1) := by decide +kernel
theorem dX0_follow_132 : decode cX0_follow 132 = .ok (.iaload, 1) := by decide +kernel
theorem dX0_follow_133 : decode cX0_follow 133 = .ok (.iastore, 1) := by decide +kernel
theorem dX0_follow_134 : decode cX0_follow 134 = .ok (.iinc 3 1, 3) := by decide +kernel
theorem dX0_follow_137 : decode cX0_follow 137 = .ok (.goto (-29), 3) := by decide +kernel
theorem dX0_follow_140 : decode cX0_follow 140 = .ok (.aload_n 0, 1) := by decide +kernel
theorem dX0_follow_141 : decode cX0_follow 141 = .ok (.iload_n 2, 1) := by decide +kernel
theorem dX0_follow_142 : decode cX0_follow 142 = .ok (.invokevirtual 76, 3) := by decide +kernel
theorem dX0_follow_145 : decode cX0_follow 145 = .ok (.istore_n 3, 1) := by decide +kernel
theorem dX0_follow_146 : decode cX0_follow 146 = .ok (.iconst 0, 1) := by decide +kernel
theorem dX0_follow_147 : decode cX0_follow 147 = .ok (.istore 4, 2) := by decide +kernel
theorem dX0_follow_149 : decode cX0_follow 149 = .ok (.iload 4, 2) := by decide +kernel
theorem dX0_follow_151 : decode cX0_follow 151 = .ok (.aload_n 0, 1) := by decide +kernel
theorem dX0_follow_152 : decode cX0_follow 152 = .ok (.getfield 54, 3) := by decide +kernel
theorem dX0_follow_155 : decode cX0_follow 155 = .ok (.if_icmp .ge 25, 3) := by decide +kernel
theorem dX0_follow_158 : decode cX0_follow 158 = .ok (.iload_n 3, 1) := by decide +kernel
theorem dX0_follow_159 : decode cX0_follow 159 = .ok (.iconst (-1), 1) := by decide +kernel
theorem dX0_follow_160 : decode cX0_follow 160 = .ok (.if_icmp .eq 20, 3) := by decide +kernel
theorem dX0_follow_163 : decode cX0_follow 163 = .ok (.aload_n 0, 1) := by decide +kernel
theorem dX0_follow_164 : decode cX0_follow 164 = .ok (.iload_n 3, 1) := by decide +kernel
theorem dX0_follow_165 : decode cX0_follow 165 = .ok (.invokevirtual 79, 3) := by decide +kernel
theorem dX0_follow_168 : decode cX0_follow 168 = .ok (.aload_n 0, 1) := by decide +kernel
theorem dX0_follow_169 : decode cX0_follow 169 = .ok (.iload_n 2, 1) := by decide +kernel
theorem dX0_follow_170 : decode cX0_follow 170 = .ok (.invokevirtual 76, 3) := by decide +kernel
theorem dX0_follow_173 : decode cX0_follow 173 = .ok (.istore_n 3, 1) := by decide +kernel
theorem dX0_follow_174 : decode cX0_follow 174 = .ok (.iinc 4 1, 3) := by decide +kernel
theorem dX0_follow_177 : decode cX0_follow 177 = .ok (.goto (-28), 3) := by decide +kernel
theorem dX0_follow_180 : decode cX0_follow 180 = .ok (.return_, 1) := by decide +kernel
theorem dX0_isComplete_0 : decode cX0_isComplete 0 = .ok (.aload_n 0, 1) := by decide +kernel
theorem dX0_isComplete_1 : decode cX0_isComplete 1 = .ok (.getfield 46, 3) := by decide +kernel
theorem dX0_isComplete_4 : decode cX0_isComplete 4 = .ok (.ifCond .eq 18, 3) := by decide +kernel
theorem dX0_isComplete_7 : decode cX0_isComplete 7 = .ok (.aload_n 0, 1) := by decide +kernel
theorem dX0_isComplete_8 : decode cX0_isComplete 8 = .ok (.getfield 57, 3) := by decide +kernel
theorem dX0_isComplete_11 : decode cX0_isComplete 11 = .ok (.aload_n 0, 1) := by decide +kernel
theorem dX0_isComplete_12 : decode cX0_isComplete 12 = .ok (.getfield 54, 3) := by decide +kernel
theorem dX0_isComplete_15 : decode cX0_isComplete 15 = .ok (.if_icmp .ne 7, 3) := by decide +kernel
theorem dX0_isComplete_18 : decode cX0_isComplete 18 = .ok (.iconst 1, 1) := by decide +kernel
theorem dX0_isComplete_19 : decode cX0_isComplete 19 = .ok (.goto 4, 3) := by decide +kernel
theorem dX0_isComplete_22 : decode cX0_isComplete 22 = .ok (.iconst 0, 1) := by decide +kernel
theorem dX0_isComplete_23 : decode cX0_isComplete 23 = .ok (.ireturn, 1) := by decide +kernel
theorem dX0_step_0 : decode cX0_step 0 = .ok (.iload_n 1, 1) := by decide +kernel
theorem dX0_step_1 : decode cX0_step 1 = .ok (.ifCond .lt 20, 3) := by decide +kernel
theorem dX0_step_4 : decode cX0_step 4 = .ok (.iload_n 1, 1) := by decide +kernel
theorem dX0_step_5 : decode cX0_step 5 = .ok (.aload_n 0, 1) := by decide +kernel
theorem dX0_step_6 : decode cX0_step 6 = .ok (.getfield 57, 3) := by decide +kernel
theorem dX0_step_9 : decode cX0_step 9 = .ok (.if_icmp .ge 12, 3) := by decide +kernel
theorem dX0_step_12 : decode cX0_step 12 = .ok (.iload_n 1, 1) := by decide +kernel
theorem dX0_step_13 : decode cX0_step 13 = .ok (.aload_n 0, 1) := by decide +kernel
theorem dX0_step_14 : decode cX0_step 14 = .ok (.getfield 32, 3) := by decide +kernel
theorem dX0_step_17 : decode cX0_step 17 = .ok (.arraylength, 1) := by decide +kernel
theorem dX0_step_18 : decode cX0_step 18 = .ok (.if_icmp .lt 7, 3) := by decide +kernel
theorem dX0_step_21 : decode cX0_step 21 = .ok (.iconst (-1), 1) := by decide +kernel
theorem dX0_step_22 : decode cX0_step 22 = .ok (.goto 9, 3) := by decide +kernel
theorem dX0_step_25 : decode cX0_step 25 = .ok (.aload_n 0, 1) := by decide +kernel
theorem dX0_step_26 : decode cX0_step 26 = .ok (.getfield 32, 3) := by decide +kernel
theorem dX0_step_29 : decode cX0_step 29 = .ok (.iload_n 1, 1) := by decide +kernel
theorem dX0_step_30 : decode cX0_step 30 = .ok (.iaload, 1) := by decide +kernel
theorem dX0_step_31 : decode cX0_step 31 = .ok (.ireturn, 1) := by decide +kernel
theorem dX0_allMost_0 : decode cX0_allMost 0 = .ok (.iconst 0, 1) := by decide +kernel
theorem dX0_allMost_1 : decode cX0_allMost 1 = .ok (.istore_n 1, 1) := by decide +kernel
theorem dX0_allMost_2 : decode cX0_allMost 2 = .ok (.iconst 0, 1) := by decide +kernel
theorem dX0_allMost_3 : decode cX0_allMost 3 = .ok (.istore_n 2, 1) := by decide +kernel
theorem dX0_allMost_4 : decode cX0_allMost 4 = .ok (.iload_n 2, 1) := by decide +kernel
theorem dX0_allMost_5 : decode cX0_allMost 5 = .ok (.aload_n 0, 1) := by decide +kernel
theorem dX0_allMost_6 : decode cX0_allMost 6 = .ok (.getfield 21, 3) := by decide +kernel
theorem dX0_allMost_9 : decode cX0_allMost 9 = .ok (.getfield 70, 3) := by decide +kernel
theorem dX0_allMost_12 : decode cX0_allMost 12 = .ok (.if_icmp .ge 18, 3) := by decide +kernel
theorem dX0_allMost_15 : decode cX0_allMost 15 = .ok (.iload_n 1, 1) := by decide +kernel
theorem dX0_allMost_16 : decode cX0_allMost 16 = .ok (.aload_n 0, 1) := by decide +kernel
theorem dX0_allMost_17 : decode cX0_allMost 17 = .ok (.getfield 35, 3) := by decide +kernel
theorem dX0_allMost_20 : decode cX0_allMost 20 = .ok (.iload_n 2, 1) := by decide +kernel
theorem dX0_allMost_21 : decode cX0_allMost 21 = .ok (.iaload, 1) := by decide +kernel
theorem dX0_allMost_22 : decode cX0_allMost 22 = .ok (.iadd, 1) := by decide +kernel
theorem dX0_allMost_23 : decode cX0_allMost 23 = .ok (.istore_n 1, 1) := by decide +kernel
theorem dX0_allMost_24 : decode cX0_allMost 24 = .ok (.iinc 2 1, 3) := by decide +kernel
theorem dX0_allMost_27 : decode cX0_allMost 27 = .ok (.goto (-23), 3) := by decide +kernel
theorem dX0_allMost_30 : decode cX0_allMost 30 = .ok (.iload_n 1, 1) := by decide +kernel
theorem dX0_allMost_31 : decode cX0_allMost 31 = .ok (.ireturn, 1) := by decide +kernel
theorem dX0_takeOver_0 : decode cX0_takeOver 0 = .ok (.aload_n 1, 1) := by decide +kernel
theorem dX0_takeOver_1 : decode cX0_takeOver 1 = .ok (.aload_n 0, 1) := by decide +kernel
theorem dX0_takeOver_2 : decode cX0_takeOver 2 = .ok (.getfield 21, 3) := by decide +kernel
theorem dX0_takeOver_5 : decode cX0_takeOver 5 = .ok (.invokevirtual 38, 3) := by decide +kernel
theorem dX0_takeOver_8 : decode cX0_takeOver 8 = .ok (.aload_n 0, 1) := by decide +kernel
theorem dX0_takeOver_9 : decode cX0_takeOver 9 = .ok (.getfield 57, 3) := by decide +kernel
theorem dX0_takeOver_12 : decode cX0_takeOver 12 = .ok (.ireturn, 1) := by decide +kernel
theorem dX0_tries_0 : decode cX0_tries 0 = .ok (.iload_n 2, 1) := by decide +kernel
theorem dX0_tries_1 : decode cX0_tries 1 = .ok (.invokestatic 83, 3) := by decide +kernel
theorem dX0_tries_4 : decode cX0_tries 4 = .ok (.getstatic 87, 3) := by decide +kernel
theorem dX0_tries_7 : decode cX0_tries 7 = .ok (.if_acmp .eq 5, 3) := by decide +kernel
theorem dX0_tries_10 : decode cX0_tries 10 = .ok (.iconst 0, 1) := by decide +kernel
theorem dX0_tries_11 : decode cX0_tries 11 = .ok (.ireturn, 1) := by decide +kernel
theorem dX0_tries_12 : decode cX0_tries 12 = .ok (.aload_n 0, 1) := by decide +kernel
theorem dX0_tries_13 : decode cX0_tries 13 = .ok (.aload_n 1, 1) := by decide +kernel
theorem dX0_tries_14 : decode cX0_tries 14 = .ok (.iload_n 2, 1) := by decide +kernel
theorem dX0_tries_15 : decode cX0_tries 15 = .ok (.invokevirtual 93, 3) := by decide +kernel
theorem dX0_tries_18 : decode cX0_tries 18 = .ok (.aload_n 0, 1) := by decide +kernel
theorem dX0_tries_19 : decode cX0_tries 19 = .ok (.invokevirtual 97, 3) := by decide +kernel
theorem dX0_tries_22 : decode cX0_tries 22 = .ok (.ifCond .eq 9, 3) := by decide +kernel
theorem dX0_tries_25 : decode cX0_tries 25 = .ok (.aload_n 0, 1) := by decide +kernel
theorem dX0_tries_26 : decode cX0_tries 26 = .ok (.aload_n 1, 1) := by decide +kernel
theorem dX0_tries_27 : decode cX0_tries 27 = .ok (.invokevirtual 101, 3) := by decide +kernel
theorem dX0_tries_30 : decode cX0_tries 30 = .ok (.pop, 1) := by decide +kernel
theorem dX0_tries_31 : decode cX0_tries 31 = .ok (.aload_n 0, 1) := by decide +kernel
theorem dX0_tries_32 : decode cX0_tries 32 = .ok (.invokevirtual 97, 3) := by decide +kernel
theorem dX0_tries_35 : decode cX0_tries 35 = .ok (.ireturn, 1) := by decide +kernel
theorem dX0_take_0 : decode cX0_take 0 = .ok (.aload_n 0, 1) := by decide +kernel
theorem dX0_take_1 : decode cX0_take 1 = .ok (.getfield 57, 3) := by decide +kernel
theorem dX0_take_4 : decode cX0_take 4 = .ok (.aload_n 0, 1) := by decide +kernel
theorem dX0_take_5 : decode cX0_take 5 = .ok (.getfield 32, 3) := by decide +kernel
theorem dX0_take_8 : decode cX0_take 8 = .ok (.arraylength, 1) := by decide +kernel
theorem dX0_take_9 : decode cX0_take 9 = .ok (.if_icmp .ge 23, 3) := by decide +kernel
theorem dX0_take_12 : decode cX0_take 12 = .ok (.aload_n 0, 1) := by decide +kernel
theorem dX0_take_13 : decode cX0_take 13 = .ok (.getfield 32, 3) := by decide +kernel
theorem dX0_take_16 : decode cX0_take 16 = .ok (.aload_n 0, 1) := by decide +kernel
theorem dX0_take_17 : decode cX0_take 17 = .ok (.getfield 57, 3) := by decide +kernel
theorem dX0_take_20 : decode cX0_take 20 = .ok (.iload_n 1, 1) := by decide +kernel
theorem dX0_take_21 : decode cX0_take 21 = .ok (.iastore, 1) := by decide +kernel
theorem dX0_take_22 : decode cX0_take 22 = .ok (.aload_n 0, 1) := by decide +kernel
theorem dX0_take_23 : decode cX0_take 23 = .ok (.dup, 1) := by decide +kernel
theorem dX0_take_24 : decode cX0_take 24 = .ok (.getfield 57, 3) := by decide +kernel
theorem dX0_take_27 : decode cX0_take 27 = .ok (.iconst 1, 1) := by decide +kernel
theorem dX0_take_28 : decode cX0_take 28 = .ok (.iadd, 1) := by decide +kernel
theorem dX0_take_29 : decode cX0_take 29 = .ok (.putfield 57, 3) := by decide +kernel
theorem dX0_take_32 : decode cX0_take 32 = .ok (.aload_n 0, 1) := by decide +kernel
theorem dX0_take_33 : decode cX0_take 33 = .ok (.getfield 25, 3) := by decide +kernel
theorem dX0_take_36 : decode cX0_take 36 = .ok (.iload_n 1, 1) := by decide +kernel
theorem dX0_take_37 : decode cX0_take 37 = .ok (.dup2, 1) := by decide +kernel
theorem dX0_take_38 : decode cX0_take 38 = .ok (.iaload, 1) := by decide +kernel
theorem dX0_take_39 : decode cX0_take 39 = .ok (.iconst 1, 1) := by decide +kernel
theorem dX0_take_40 : decode cX0_take 40 = .ok (.isub, 1) := by decide +kernel
theorem dX0_take_41 : decode cX0_take 41 = .ok (.iastore, 1) := by decide +kernel
theorem dX0_take_42 : decode cX0_take 42 = .ok (.aload_n 0, 1) := by decide +kernel
theorem dX0_take_43 : decode cX0_take 43 = .ok (.getfield 21, 3) := by decide +kernel
theorem dX0_take_46 : decode cX0_take 46 = .ok (.iload_n 1, 1) := by decide +kernel
theorem dX0_take_47 : decode cX0_take 47 = .ok (.invokevirtual 105, 3) := by decide +kernel
theorem dX0_take_50 : decode cX0_take 50 = .ok (.iconst 0, 1) := by decide +kernel
theorem dX0_take_51 : decode cX0_take 51 = .ok (.istore_n 2, 1) := by decide +kernel
theorem dX0_take_52 : decode cX0_take 52 = .ok (.iload_n 2, 1) := by decide +kernel
theorem dX0_take_53 : decode cX0_take 53 = .ok (.aload_n 0, 1) := by decide +kernel
theorem dX0_take_54 : decode cX0_take 54 = .ok (.getfield 21, 3) := by decide +kernel
theorem dX0_take_57 : decode cX0_take 57 = .ok (.getfield 70, 3) := by decide +kernel
theorem dX0_take_60 : decode cX0_take 60 = .ok (.if_icmp .ge 33, 3) := by decide +kernel
theorem dX0_take_63 : decode cX0_take 63 = .ok (.aload_n 0, 1) := by decide +kernel
theorem dX0_take_64 : decode cX0_take 64 = .ok (.getfield 35, 3) := by decide +kernel
theorem dX0_take_67 : decode cX0_take 67 = .ok (.iload_n 2, 1) := by decide +kernel
theorem dX0_take_68 : decode cX0_take 68 = .ok (.aload_n 0, 1) := by decide +kernel
theorem dX0_take_69 : decode cX0_take 69 = .ok (.getfield 35, 3) := by decide +kernel
theorem dX0_take_72 : decode cX0_take 72 = .ok (.iload_n 2, 1) := by decide +kernel
theorem dX0_take_73 : decode cX0_take 73 = .ok (.iaload, 1) := by decide +kernel
theorem dX0_take_74 : decode cX0_take 74 = .ok (.aload_n 0, 1) := by decide +kernel
theorem dX0_take_75 : decode cX0_take 75 = .ok (.getfield 21, 3) := by decide +kernel
theorem dX0_take_78 : decode cX0_take 78 = .ok (.getfield 73, 3) := by decide +kernel
theorem dX0_take_81 : decode cX0_take 81 = .ok (.iload_n 2, 1) := by decide +kernel
theorem dX0_take_82 : decode cX0_take 82 = .ok (.iaload, 1) := by decide +kernel
theorem dX0_take_83 : decode cX0_take 83 = .ok (.invokestatic 108, 3) := by decide +kernel
theorem dX0_take_86 : decode cX0_take 86 = .ok (.iastore, 1) := by decide +kernel
theorem dX0_take_87 : decode cX0_take 87 = .ok (.iinc 2 1, 3) := by decide +kernel
theorem dX0_take_90 : decode cX0_take 90 = .ok (.goto (-38), 3) := by decide +kernel
theorem dX0_take_93 : decode cX0_take 93 = .ok (.return_, 1) := by decide +kernel
theorem dX0_choose_0 : decode cX0_choose 0 = .ok (.iload_n 1, 1) := by decide +kernel
theorem dX0_choose_1 : decode cX0_choose 1 = .ok (.iconst 2, 1) := by decide +kernel
theorem dX0_choose_2 : decode cX0_choose 2 = .ok (.if_icmp .ne 25, 3) := by decide +kernel
theorem dX0_choose_5 : decode cX0_choose 5 = .ok (.aload_n 0, 1) := by decide +kernel
theorem dX0_choose_6 : decode cX0_choose 6 = .ok (.getfield 57, 3) := by decide +kernel
theorem dX0_choose_9 : decode cX0_choose 9 = .ok (.ifCond .le 18, 3) := by decide +kernel
theorem dX0_choose_12 : decode cX0_choose 12 = .ok (.aload_n 0, 1) := by decide +kernel
theorem dX0_choose_13 : decode cX0_choose 13 = .ok (.aload_n 0, 1) := by decide +kernel
theorem dX0_choose_14 : decode cX0_choose 14 = .ok (.getfield 57, 3) := by decide +kernel
theorem dX0_choose_17 : decode cX0_choose 17 = .ok (.iconst 1, 1) := by decide +kernel
theorem dX0_choose_18 : decode cX0_choose 18 = .ok (.isub, 1) := by decide +kernel
theorem dX0_choose_19 : decode cX0_choose 19 = .ok (.invokevirtual 114, 3) := by decide +kernel
theorem dX0_choose_22 : decode cX0_choose 22 = .ok (.iconst 1, 1) := by decide +kernel
theorem dX0_choose_23 : decode cX0_choose 23 = .ok (.iadd, 1) := by decide +kernel
theorem dX0_choose_24 : decode cX0_choose 24 = .ok (.goto 4, 3) := by decide +kernel
theorem dX0_choose_27 : decode cX0_choose 27 = .ok (.iconst 0, 1) := by decide +kernel
theorem dX0_choose_28 : decode cX0_choose 28 = .ok (.istore_n 2, 1) := by decide +kernel
theorem dX0_choose_29 : decode cX0_choose 29 = .ok (.iconst (-1), 1) := by decide +kernel
theorem dX0_choose_30 : decode cX0_choose 30 = .ok (.istore_n 3, 1) := by decide +kernel
theorem dX0_choose_31 : decode cX0_choose 31 = .ok (.iconst 0, 1) := by decide +kernel
theorem dX0_choose_32 : decode cX0_choose 32 = .ok (.istore 4, 2) := by decide +kernel
theorem dX0_choose_34 : decode cX0_choose 34 = .ok (.iload 4, 2) := by decide +kernel
theorem dX0_choose_36 : decode cX0_choose 36 = .ok (.aload_n 0, 1) := by decide +kernel
theorem dX0_choose_37 : decode cX0_choose 37 = .ok (.getfield 21, 3) := by decide +kernel
theorem dX0_choose_40 : decode cX0_choose 40 = .ok (.getfield 60, 3) := by decide +kernel
theorem dX0_choose_43 : decode cX0_choose 43 = .ok (.if_icmp .ge 98, 3) := by decide +kernel
theorem dX0_choose_46 : decode cX0_choose 46 = .ok (.iload_n 2, 1) := by decide +kernel
theorem dX0_choose_47 : decode cX0_choose 47 = .ok (.iload 4, 2) := by decide +kernel
theorem dX0_choose_49 : decode cX0_choose 49 = .ok (.iadd, 1) := by decide +kernel
theorem dX0_choose_50 : decode cX0_choose 50 = .ok (.aload_n 0, 1) := by decide +kernel
theorem dX0_choose_51 : decode cX0_choose 51 = .ok (.getfield 21, 3) := by decide +kernel
theorem dX0_choose_54 : decode cX0_choose 54 = .ok (.getfield 60, 3) := by decide +kernel
theorem dX0_choose_57 : decode cX0_choose 57 = .ok (.if_icmp .ge 10, 3) := by decide +kernel
theorem dX0_choose_60 : decode cX0_choose 60 = .ok (.iload_n 2, 1) := by decide +kernel
theorem dX0_choose_61 : decode cX0_choose 61 = .ok (.iload 4, 2) := by decide +kernel
theorem dX0_choose_63 : decode cX0_choose 63 = .ok (.iadd, 1) := by decide +kernel
theorem dX0_choose_64 : decode cX0_choose 64 = .ok (.goto 15, 3) := by decide +kernel
theorem dX0_choose_67 : decode cX0_choose 67 = .ok (.iload_n 2, 1) := by decide +kernel
theorem dX0_choose_68 : decode cX0_choose 68 = .ok (.iload 4, 2) := by decide +kernel
theorem dX0_choose_70 : decode cX0_choose 70 = .ok (.iadd, 1) := by decide +kernel
theorem dX0_choose_71 : decode cX0_choose 71 = .ok (.aload_n 0, 1) := by decide +kernel
theorem dX0_choose_72 : decode cX0_choose 72 = .ok (.getfield 21, 3) := by decide +kernel
theorem dX0_choose_75 : decode cX0_choose 75 = .ok (.getfield 60, 3) := by decide +kernel
theorem dX0_choose_78 : decode cX0_choose 78 = .ok (.isub, 1) := by decide +kernel
theorem dX0_choose_79 : decode cX0_choose 79 = .ok (.istore 5, 2) := by decide +kernel
theorem dX0_choose_81 : decode cX0_choose 81 = .ok (.aload_n 0, 1) := by decide +kernel
theorem dX0_choose_82 : decode cX0_choose 82 = .ok (.getfield 25, 3) := by decide +kernel
theorem dX0_choose_85 : decode cX0_choose 85 = .ok (.iload 5, 2) := by decide +kernel
theorem dX0_choose_87 : decode cX0_choose 87 = .ok (.iaload, 1) := by decide +kernel
theorem dX0_choose_88 : decode cX0_choose 88 = .ok (.ifCond .le 47, 3) := by decide +kernel
theorem dX0_choose_91 : decode cX0_choose 91 = .ok (.aload_n 0, 1) := by decide +kernel
theorem dX0_choose_92 : decode cX0_choose 92 = .ok (.getfield 21, 3) := by decide +kernel
theorem dX0_choose_95 : decode cX0_choose 95 = .ok (.iload 5, 2) := by decide +kernel
theorem dX0_choose_97 : decode cX0_choose 97 = .ok (.invokevirtual 117, 3) := by decide +kernel
theorem dX0_choose_100 : decode cX0_choose 100 = .ok (.ifCond .eq 35, 3) := by decide +kernel
theorem dX0_choose_103 : decode cX0_choose 103 = .ok (.iload_n 1, 1) := by decide +kernel
theorem dX0_choose_104 : decode cX0_choose 104 = .ok (.iconst 1, 1) := by decide +kernel
theorem dX0_choose_105 : decode cX0_choose 105 = .ok (.if_icmp .eq 6, 3) := by decide +kernel
theorem dX0_choose_108 : decode cX0_choose 108 = .ok (.iload 5, 2) := by decide +kernel
theorem dX0_choose_110 : decode cX0_choose 110 = .ok (.ireturn, 1) := by decide +kernel
theorem dX0_choose_111 : decode cX0_choose 111 = .ok (.iload_n 3, 1) := by decide +kernel
theorem dX0_choose_112 : decode cX0_choose 112 = .ok (.iconst (-1), 1) := by decide +kernel
theorem dX0_choose_113 : decode cX0_choose 113 = .ok (.if_icmp .eq 19, 3) := by decide +kernel
theorem dX0_choose_116 : decode cX0_choose 116 = .ok (.aload_n 0, 1) := by decide +kernel
theorem dX0_choose_117 : decode cX0_choose 117 = .ok (.getfield 29, 3) := by decide +kernel
theorem dX0_choose_120 : decode cX0_choose 120 = .ok (.iload 5, 2) := by decide +kernel
theorem dX0_choose_122 : decode cX0_choose 122 = .ok (.iaload, 1) := by decide +kernel
theorem dX0_choose_123 : decode cX0_choose 123 = .ok (.aload_n 0, 1) := by decide +kernel
theorem dX0_choose_124 : decode cX0_choose 124 = .ok (.getfield 29, 3) := by decide +kernel
theorem dX0_choose_127 : decode cX0_choose 127 = .ok (.iload_n 3, 1) := by decide +kernel
theorem dX0_choose_128 : decode cX0_choose 128 = .ok (.iaload, 1) := by decide +kernel
theorem dX0_choose_129 : decode cX0_choose 129 = .ok (.if_icmp .ge 6, 3) := by decide +kernel
theorem dX0_choose_132 : decode cX0_choose 132 = .ok (.iload 5, 2) := by decide +kernel
theorem dX0_choose_134 : decode cX0_choose 134 = .ok (.istore_n 3, 1) := by decide +kernel
theorem dX0_choose_135 : decode cX0_choose 135 = .ok (.iinc 4 1, 3) := by decide +kernel
theorem dX0_choose_138 : decode cX0_choose 138 = .ok (.goto (-104), 3) := by decide +kernel
theorem dX0_choose_141 : decode cX0_choose 141 = .ok (.iload_n 3, 1) := by decide +kernel
theorem dX0_choose_142 : decode cX0_choose 142 = .ok (.ireturn, 1) := by decide +kernel
theorem dX2_init_0 : decode cX2_init 0 = .ok (.aload_n 0, 1) := by decide +kernel
theorem dX2_init_1 : decode cX2_init 1 = .ok (.invokespecial 3, 3) := by decide +kernel
theorem dX2_init_4 : decode cX2_init 4 = .ok (.aload_n 0, 1) := by decide +kernel
theorem dX2_init_5 : decode cX2_init 5 = .ok (.bipush 14, 2) := by decide +kernel
theorem dX2_init_7 : decode cX2_init 7 = .ok (.anewarray 9, 3) := by decide +kernel
theorem dX2_init_10 : decode cX2_init 10 = .ok (.putfield 11, 3) := by decide +kernel
theorem dX2_init_13 : decode cX2_init 13 = .ok (.iconst 0, 1) := by decide +kernel
theorem dX2_init_14 : decode cX2_init 14 = .ok (.istore_n 1, 1) := by decide +kernel
theorem dX2_init_15 : decode cX2_init 15 = .ok (.iload_n 1, 1) := by decide +kernel
theorem dX2_init_16 : decode cX2_init 16 = .ok (.bipush 14, 2) := by decide +kernel
theorem dX2_init_18 : decode cX2_init 18 = .ok (.if_icmp .ge 22, 3) := by decide +kernel
theorem dX2_init_21 : decode cX2_init 21 = .ok (.aload_n 0, 1) := by decide +kernel
theorem dX2_init_22 : decode cX2_init 22 = .ok (.getfield 11, 3) := by decide +kernel
theorem dX2_init_25 : decode cX2_init 25 = .ok (.iload_n 1, 1) := by decide +kernel
theorem dX2_init_26 : decode cX2_init 26 = .ok (.new 9, 3) := by decide +kernel
theorem dX2_init_29 : decode cX2_init 29 = .ok (.dup, 1) := by decide +kernel
theorem dX2_init_30 : decode cX2_init 30 = .ok (.invokespecial 17, 3) := by decide +kernel
theorem dX2_init_33 : decode cX2_init 33 = .ok (.aastore, 1) := by decide +kernel
theorem dX2_init_34 : decode cX2_init 34 = .ok (.iinc 1 1, 3) := by decide +kernel
theorem dX2_init_37 : decode cX2_init 37 = .ok (.goto (-22), 3) := by decide +kernel
theorem dX2_init_40 : decode cX2_init 40 = .ok (.return_, 1) := by decide +kernel
theorem dX2_isEmpty_0 : decode cX2_isEmpty 0 = .ok (.aload_n 0, 1) := by decide +kernel
theorem dX2_isEmpty_1 : decode cX2_isEmpty 1 = .ok (.getfield 18, 3) := by decide +kernel
theorem dX2_isEmpty_4 : decode cX2_isEmpty 4 = .ok (.ifCond .ne 7, 3) := by decide +kernel
theorem dX2_isEmpty_7 : decode cX2_isEmpty 7 = .ok (.iconst 1, 1) := by decide +kernel
theorem dX2_isEmpty_8 : decode cX2_isEmpty 8 = .ok (.goto 4, 3) := by decide +kernel
theorem dX2_isEmpty_11 : decode cX2_isEmpty 11 = .ok (.iconst 0, 1) := by decide +kernel
theorem dX2_isEmpty_12 : decode cX2_isEmpty 12 = .ok (.ireturn, 1) := by decide +kernel
theorem dX2_remember_0 : decode cX2_remember 0 = .ok (.aload_n 0, 1) := by decide +kernel
theorem dX2_remember_1 : decode cX2_remember 1 = .ok (.getfield 11, 3) := by decide +kernel
theorem dX2_remember_4 : decode cX2_remember 4 = .ok (.aload_n 0, 1) := by decide +kernel
theorem dX2_remember_5 : decode cX2_remember 5 = .ok (.getfield 22, 3) := by decide +kernel
theorem dX2_remember_8 : decode cX2_remember 8 = .ok (.aload_n 0, 1) := by decide +kernel
theorem dX2_remember_9 : decode cX2_remember 9 = .ok (.getfield 18, 3) := by decide +kernel
theorem dX2_remember_12 : decode cX2_remember 12 = .ok (.iadd, 1) := by decide +kernel
theorem dX2_remember_13 : decode cX2_remember 13 = .ok (.bipush 14, 2) := by decide +kernel
theorem dX2_remember_15 : decode cX2_remember 15 = .ok (.irem, 1) := by decide +kernel
theorem dX2_remember_16 : decode cX2_remember 16 = .ok (.aaload, 1) := by decide +kernel
theorem dX2_remember_17 : decode cX2_remember 17 = .ok (.aload_n 1, 1) := by decide +kernel
theorem dX2_remember_18 : decode cX2_remember 18 = .ok (.invokevirtual 25, 3) := by decide +kernel
theorem dX2_remember_21 : decode cX2_remember 21 = .ok (.aload_n 0, 1) := by decide +kernel
theorem dX2_remember_22 : decode cX2_remember 22 = .ok (.getfield 18, 3) := by decide +kernel
theorem dX2_remember_25 : decode cX2_remember 25 = .ok (.bipush 14, 2) := by decide +kernel
theorem dX2_remember_27 : decode cX2_remember 27 = .ok (.if_icmp .ge 16, 3) := by decide +kernel
theorem dX2_remember_30 : decode cX2_remember 30 = .ok (.aload_n 0, 1) := by decide +kernel
theorem dX2_remember_31 : decode cX2_remember 31 = .ok (.dup, 1) := by decide +kernel
theorem dX2_remember_32 : decode cX2_remember 32 = .ok (.getfield 18, 3) := by decide +kernel
theorem dX2_remember_35 : decode cX2_remember 35 = .ok (.iconst 1, 1) := by decide +kernel
theorem dX2_remember_36 : decode cX2_remember 36 = .ok (.iadd, 1) := by decide +kernel
theorem dX2_remember_37 : decode cX2_remember 37 = .ok (.putfield 18, 3) := by decide +kernel
theorem dX2_remember_40 : decode cX2_remember 40 = .ok (.goto 16, 3) := by decide +kernel
theorem dX2_remember_43 : decode cX2_remember 43 = .ok (.aload_n 0, 1) := by decide +kernel
theorem dX2_remember_44 : decode cX2_remember 44 = .ok (.aload_n 0, 1) := by decide +kernel
theorem dX2_remember_45 : decode cX2_remember 45 = .ok (.getfield 22, 3) := by decide +kernel
theorem dX2_remember_48 : decode cX2_remember 48 = .ok (.iconst 1, 1) := by decide +kernel
theorem dX2_remember_49 : decode cX2_remember 49 = .ok (.iadd, 1) := by decide +kernel
theorem dX2_remember_50 : decode cX2_remember 50 = .ok (.bipush 14, 2) := by decide +kernel
theorem dX2_remember_52 : decode cX2_remember 52 = .ok (.irem, 1) := by decide +kernel
theorem dX2_remember_53 : decode cX2_remember 53 = .ok (.putfield 22, 3) := by decide +kernel
theorem dX2_remember_56 : decode cX2_remember 56 = .ok (.return_, 1) := by decide +kernel
theorem dX2_takeBack_0 : decode cX2_takeBack 0 = .ok (.aload_n 0, 1) := by decide +kernel
theorem dX2_takeBack_1 : decode cX2_takeBack 1 = .ok (.dup, 1) := by decide +kernel
theorem dX2_takeBack_2 : decode cX2_takeBack 2 = .ok (.getfield 18, 3) := by decide +kernel
theorem dX2_takeBack_5 : decode cX2_takeBack 5 = .ok (.iconst 1, 1) := by decide +kernel
theorem dX2_takeBack_6 : decode cX2_takeBack 6 = .ok (.isub, 1) := by decide +kernel
theorem dX2_takeBack_7 : decode cX2_takeBack 7 = .ok (.putfield 18, 3) := by decide +kernel
theorem dX2_takeBack_10 : decode cX2_takeBack 10 = .ok (.aload_n 1, 1) := by decide +kernel
theorem dX2_takeBack_11 : decode cX2_takeBack 11 = .ok (.aload_n 0, 1) := by decide +kernel
theorem dX2_takeBack_12 : decode cX2_takeBack 12 = .ok (.getfield 11, 3) := by decide +kernel
theorem dX2_takeBack_15 : decode cX2_takeBack 15 = .ok (.aload_n 0, 1) := by decide +kernel
theorem dX2_takeBack_16 : decode cX2_takeBack 16 = .ok (.getfield 22, 3) := by decide +kernel
theorem dX2_takeBack_19 : decode cX2_takeBack 19 = .ok (.aload_n 0, 1) := by decide +kernel
theorem dX2_takeBack_20 : decode cX2_takeBack 20 = .ok (.getfield 18, 3) := by decide +kernel
theorem dX2_takeBack_23 : decode cX2_takeBack 23 = .ok (.iadd, 1) := by decide +kernel
theorem dX2_takeBack_24 : decode cX2_takeBack 24 = .ok (.bipush 14, 2) := by decide +kernel
theorem dX2_takeBack_26 : decode cX2_takeBack 26 = .ok (.irem, 1) := by decide +kernel
theorem dX2_takeBack_27 : decode cX2_takeBack 27 = .ok (.aaload, 1) := by decide +kernel
theorem dX2_takeBack_28 : decode cX2_takeBack 28 = .ok (.invokevirtual 25, 3) := by decide +kernel
theorem dX2_takeBack_31 : decode cX2_takeBack 31 = .ok (.aload_n 0, 1) := by decide +kernel
theorem dX2_takeBack_32 : decode cX2_takeBack 32 = .ok (.getfield 18, 3) := by decide +kernel
theorem dX2_takeBack_35 : decode cX2_takeBack 35 = .ok (.ireturn, 1) := by decide +kernel
theorem dX2_forget_0 : decode cX2_forget 0 = .ok (.aload_n 0, 1) := by decide +kernel
theorem dX2_forget_1 : decode cX2_forget 1 = .ok (.iconst 0, 1) := by decide +kernel
theorem dX2_forget_2 : decode cX2_forget 2 = .ok (.putfield 18, 3) := by decide +kernel
theorem dX2_forget_5 : decode cX2_forget 5 = .ok (.return_, 1) := by decide +kernel
theorem dX3_init_0 : decode cX3_init 0 = .ok (.aload_n 0, 1) := by decide +kernel
theorem dX3_init_1 : decode cX3_init 1 = .ok (.invokespecial 3, 3) := by decide +kernel
theorem dX3_init_4 : decode cX3_init 4 = .ok (.aload_n 0, 1) := by decide +kernel
theorem dX3_init_5 : decode cX3_init 5 = .ok (.bipush 8, 2) := by decide +kernel
theorem dX3_init_7 : decode cX3_init 7 = .ok (.newarray .int, 2) := by decide +kernel
theorem dX3_init_9 : decode cX3_init 9 = .ok (.putfield 9, 3) := by decide +kernel
theorem dX3_init_12 : decode cX3_init 12 = .ok (.aload_n 0, 1) := by decide +kernel
theorem dX3_init_13 : decode cX3_init 13 = .ok (.bipush 8, 2) := by decide +kernel
theorem dX3_init_15 : decode cX3_init 15 = .ok (.newarray .int, 2) := by decide +kernel
theorem dX3_init_17 : decode cX3_init 17 = .ok (.putfield 15, 3) := by decide +kernel
theorem dX3_init_20 : decode cX3_init 20 = .ok (.aload_n 0, 1) := by decide +kernel
theorem dX3_init_21 : decode cX3_init 21 = .ok (.bipush 8, 2) := by decide +kernel
theorem dX3_init_23 : decode cX3_init 23 = .ok (.newarray .int, 2) := by decide +kernel
theorem dX3_init_25 : decode cX3_init 25 = .ok (.putfield 18, 3) := by decide +kernel
theorem dX3_init_28 : decode cX3_init 28 = .ok (.aload_n 0, 1) := by decide +kernel
theorem dX3_init_29 : decode cX3_init 29 = .ok (.bipush 14, 2) := by decide +kernel
theorem dX3_init_31 : decode cX3_init 31 = .ok (.newarray .int, 2) := by decide +kernel
theorem dX3_init_33 : decode cX3_init 33 = .ok (.putfield 21, 3) := by decide +kernel
theorem dX3_init_36 : decode cX3_init 36 = .ok (.aload_n 0, 1) := by decide +kernel
theorem dX3_init_37 : decode cX3_init 37 = .ok (.bipush 14, 2) := by decide +kernel
theorem dX3_init_39 : decode cX3_init 39 = .ok (.newarray .int, 2) := by decide +kernel
theorem dX3_init_41 : decode cX3_init 41 = .ok (.putfield 24, 3) := by decide +kernel
theorem dX3_init_44 : decode cX3_init 44 = .ok (.aload_n 0, 1) := by decide +kernel
theorem dX3_init_45 : decode cX3_init 45 = .ok (.bipush 14, 2) := by decide +kernel
theorem dX3_init_47 : decode cX3_init 47 = .ok (.newarray .int, 2) := by decide +kernel
theorem dX3_init_49 : decode cX3_init 49 = .ok (.putfield 27, 3) := by decide +kernel
theorem dX3_init_52 : decode cX3_init 52 = .ok (.aload_n 0, 1) := by decide +kernel
theorem dX3_init_53 : decode cX3_init 53 = .ok (.bipush 14, 2) := by decide +kernel
theorem dX3_init_55 : decode cX3_init 55 = .ok (.newarray .int, 2) := by decide +kernel
theorem dX3_init_57 : decode cX3_init 57 = .ok (.putfield 30, 3) := by decide +kernel
theorem dX3_init_60 : decode cX3_init 60 = .ok (.aload_n 0, 1) := by decide +kernel
theorem dX3_init_61 : decode cX3_init 61 = .ok (.bipush 14, 2) := by decide +kernel
theorem dX3_init_63 : decode cX3_init 63 = .ok (.newarray .int, 2) := by decide +kernel
theorem dX3_init_65 : decode cX3_init 65 = .ok (.putfield 33, 3) := by decide +kernel
theorem dX3_init_68 : decode cX3_init 68 = .ok (.return_, 1) := by decide +kernel
theorem dX3_empty_0 : decode cX3_empty 0 = .ok (.aload_n 0, 1) := by decide +kernel
theorem dX3_empty_1 : decode cX3_empty 1 = .ok (.iconst 0, 1) := by decide +kernel
theorem dX3_empty_2 : decode cX3_empty 2 = .ok (.putfield 36, 3) := by decide +kernel
theorem dX3_empty_5 : decode cX3_empty 5 = .ok (.aload_n 0, 1) := by decide +kernel
theorem dX3_empty_6 : decode cX3_empty 6 = .ok (.iconst 0, 1) := by decide +kernel
theorem dX3_empty_7 : decode cX3_empty 7 = .ok (.putfield 40, 3) := by decide +kernel
theorem dX3_empty_10 : decode cX3_empty 10 = .ok (.return_, 1) := by decide +kernel
theorem dX3_become_0 : decode cX3_become 0 = .ok (.aload_n 1, 1) := by decide +kernel
theorem dX3_become_1 : decode cX3_become 1 = .ok (.ifnonnull 4, 3) := by decide +kernel
theorem dX3_become_4 : decode cX3_become 4 = .ok (.return_, 1) := by decide +kernel
theorem dX3_become_5 : decode cX3_become 5 = .ok (.aload_n 0, 1) := by decide +kernel
theorem dX3_become_6 : decode cX3_become 6 = .ok (.aload_n 1, 1) := by decide +kernel
theorem dX3_become_7 : decode cX3_become 7 = .ok (.getfield 36, 3) := by decide +kernel
theorem dX3_become_10 : decode cX3_become 10 = .ok (.putfield 36, 3) := by decide +kernel
theorem dX3_become_13 : decode cX3_become 13 = .ok (.aload_n 1, 1) := by decide +kernel
theorem dX3_become_14 : decode cX3_become 14 = .ok (.getfield 9, 3) := by decide +kernel
theorem dX3_become_17 : decode cX3_become 17 = .ok (.iconst 0, 1) := by decide +kernel
theorem dX3_become_18 : decode cX3_become 18 = .ok (.aload_n 0, 1) := by decide +kernel
theorem dX3_become_19 : decode cX3_become 19 = .ok (.getfield 9, 3) := by decide +kernel
theorem dX3_become_22 : decode cX3_become 22 = .ok (.iconst 0, 1) := by decide +kernel
theorem dX3_become_23 : decode cX3_become 23 = .ok (.bipush 8, 2) := by decide +kernel
theorem dX3_become_25 : decode cX3_become 25 = .ok (.invokestatic 43, 3) := by decide +kernel
theorem dX3_become_28 : decode cX3_become 28 = .ok (.aload_n 1, 1) := by decide +kernel
theorem dX3_become_29 : decode cX3_become 29 = .ok (.getfield 15, 3) := by decide +kernel
theorem dX3_become_32 : decode cX3_become 32 = .ok (.iconst 0, 1) := by decide +kernel
theorem dX3_become_33 : decode cX3_become 33 = .ok (.aload_n 0, 1) := by decide +kernel
theorem dX3_become_34 : decode cX3_become 34 = .ok (.getfield 15, 3) := by decide +kernel
theorem dX3_become_37 : decode cX3_become 37 = .ok (.iconst 0, 1) := by decide +kernel
theorem dX3_become_38 : decode cX3_become 38 = .ok (.bipush 8, 2) := by decide +kernel
theorem dX3_become_40 : decode cX3_become 40 = .ok (.invokestatic 43, 3) := by decide +kernel
theorem dX3_become_43 : decode cX3_become 43 = .ok (.aload_n 1, 1) := by decide +kernel
theorem dX3_become_44 : decode cX3_become 44 = .ok (.getfield 18, 3) := by decide +kernel
theorem dX3_become_47 : decode cX3_become 47 = .ok (.iconst 0, 1) := by decide +kernel
theorem dX3_become_48 : decode cX3_become 48 = .ok (.aload_n 0, 1) := by decide +kernel
theorem dX3_become_49 : decode cX3_become 49 = .ok (.getfield 18, 3) := by decide +kernel
theorem dX3_become_52 : decode cX3_become 52 = .ok (.iconst 0, 1) := by decide +kernel
theorem dX3_become_53 : decode cX3_become 53 = .ok (.bipush 8, 2) := by decide +kernel
theorem dX3_become_55 : decode cX3_become 55 = .ok (.invokestatic 43, 3) := by decide +kernel
theorem dX3_become_58 : decode cX3_become 58 = .ok (.aload_n 0, 1) := by decide +kernel
theorem dX3_become_59 : decode cX3_become 59 = .ok (.aload_n 1, 1) := by decide +kernel
theorem dX3_become_60 : decode cX3_become 60 = .ok (.getfield 40, 3) := by decide +kernel
theorem dX3_become_63 : decode cX3_become 63 = .ok (.putfield 40, 3) := by decide +kernel
theorem dX3_become_66 : decode cX3_become 66 = .ok (.aload_n 1, 1) := by decide +kernel
theorem dX3_become_67 : decode cX3_become 67 = .ok (.getfield 21, 3) := by decide +kernel
theorem dX3_become_70 : decode cX3_become 70 = .ok (.iconst 0, 1) := by decide +kernel
theorem dX3_become_71 : decode cX3_become 71 = .ok (.aload_n 0, 1) := by decide +kernel
theorem dX3_become_72 : decode cX3_become 72 = .ok (.getfield 21, 3) := by decide +kernel
theorem dX3_become_75 : decode cX3_become 75 = .ok (.iconst 0, 1) := by decide +kernel
theorem dX3_become_76 : decode cX3_become 76 = .ok (.bipush 14, 2) := by decide +kernel
theorem dX3_become_78 : decode cX3_become 78 = .ok (.invokestatic 43, 3) := by decide +kernel
theorem dX3_become_81 : decode cX3_become 81 = .ok (.aload_n 1, 1) := by decide +kernel
theorem dX3_become_82 : decode cX3_become 82 = .ok (.getfield 24, 3) := by decide +kernel
theorem dX3_become_85 : decode cX3_become 85 = .ok (.iconst 0, 1) := by decide +kernel
theorem dX3_become_86 : decode cX3_become 86 = .ok (.aload_n 0, 1) := by decide +kernel
theorem dX3_become_87 : decode cX3_become 87 = .ok (.getfield 24, 3) := by decide +kernel
theorem dX3_become_90 : decode cX3_become 90 = .ok (.iconst 0, 1) := by decide +kernel
theorem dX3_become_91 : decode cX3_become 91 = .ok (.bipush 14, 2) := by decide +kernel
theorem dX3_become_93 : decode cX3_become 93 = .ok (.invokestatic 43, 3) := by decide +kernel
theorem dX3_become_96 : decode cX3_become 96 = .ok (.aload_n 1, 1) := by decide +kernel
theorem dX3_become_97 : decode cX3_become 97 = .ok (.getfield 27, 3) := by decide +kernel
theorem dX3_become_100 : decode cX3_become 100 = .ok (.iconst 0, 1) := by decide +kernel
theorem dX3_become_101 : decode cX3_become 101 = .ok (.aload_n 0, 1) := by decide +kernel
theorem dX3_become_102 : decode cX3_become 102 = .ok (.getfield 27, 3) := by decide +kernel
theorem dX3_become_105 : decode cX3_become 105 = .ok (.iconst 0, 1) := by decide +kernel
theorem dX3_become_106 : decode cX3_become 106 = .ok (.bipush 14, 2) := by decide +kernel
theorem dX3_become_108 : decode cX3_become 108 = .ok (.invokestatic 43, 3) := by decide +kernel
theorem dX3_become_111 : decode cX3_become 111 = .ok (.aload_n 1, 1) := by decide +kernel
theorem dX3_become_112 : decode cX3_become 112 = .ok (.getfield 30, 3) := by decide +kernel
theorem dX3_become_115 : decode cX3_become 115 = .ok (.iconst 0, 1) := by decide +kernel
theorem dX3_become_116 : decode cX3_become 116 = .ok (.aload_n 0, 1) := by decide +kernel
theorem dX3_become_117 : decode cX3_become 117 = .ok (.getfield 30, 3) := by decide +kernel
theorem dX3_become_120 : decode cX3_become 120 = .ok (.iconst 0, 1) := by decide +kernel
theorem dX3_become_121 : decode cX3_become 121 = .ok (.bipush 14, 2) := by decide +kernel
theorem dX3_become_123 : decode cX3_become 123 = .ok (.invokestatic 43, 3) := by decide +kernel
theorem dX3_become_126 : decode cX3_become 126 = .ok (.aload_n 1, 1) := by decide +kernel
theorem dX3_become_127 : decode cX3_become 127 = .ok (.getfield 33, 3) := by decide +kernel
theorem dX3_become_130 : decode cX3_become 130 = .ok (.iconst 0, 1) := by decide +kernel
theorem dX3_become_131 : decode cX3_become 131 = .ok (.aload_n 0, 1) := by decide +kernel
theorem dX3_become_132 : decode cX3_become 132 = .ok (.getfield 33, 3) := by decide +kernel
theorem dX3_become_135 : decode cX3_become 135 = .ok (.iconst 0, 1) := by decide +kernel
theorem dX3_become_136 : decode cX3_become 136 = .ok (.bipush 14, 2) := by decide +kernel
theorem dX3_become_138 : decode cX3_become 138 = .ok (.invokestatic 43, 3) := by decide +kernel
theorem dX3_become_141 : decode cX3_become 141 = .ok (.return_, 1) := by decide +kernel
theorem dX3_hasModule_0 : decode cX3_hasModule 0 = .ok (.iload_n 1, 1) := by decide +kernel
theorem dX3_hasModule_1 : decode cX3_hasModule 1 = .ok (.ifCond .lt 15, 3) := by decide +kernel
theorem dX3_hasModule_4 : decode cX3_hasModule 4 = .ok (.iload_n 1, 1) := by decide +kernel
theorem dX3_hasModule_5 : decode cX3_hasModule 5 = .ok (.aload_n 0, 1) := by decide +kernel
theorem dX3_hasModule_6 : decode cX3_hasModule 6 = .ok (.getfield 36, 3) := by decide +kernel
theorem dX3_hasModule_9 : decode cX3_hasModule 9 = .ok (.if_icmp .ge 7, 3) := by decide +kernel
theorem dX3_hasModule_12 : decode cX3_hasModule 12 = .ok (.iconst 1, 1) := by decide +kernel
theorem dX3_hasModule_13 : decode cX3_hasModule 13 = .ok (.goto 4, 3) := by decide +kernel
theorem dX3_hasModule_16 : decode cX3_hasModule 16 = .ok (.iconst 0, 1) := by decide +kernel
theorem dX3_hasModule_17 : decode cX3_hasModule 17 = .ok (.ireturn, 1) := by decide +kernel
theorem dX3_hasWire_0 : decode cX3_hasWire 0 = .ok (.iload_n 1, 1) := by decide +kernel
theorem dX3_hasWire_1 : decode cX3_hasWire 1 = .ok (.ifCond .lt 15, 3) := by decide +kernel
theorem dX3_hasWire_4 : decode cX3_hasWire 4 = .ok (.iload_n 1, 1) := by decide +kernel
theorem dX3_hasWire_5 : decode cX3_hasWire 5 = .ok (.aload_n 0, 1) := by decide +kernel
theorem dX3_hasWire_6 : decode cX3_hasWire 6 = .ok (.getfield 40, 3) := by decide +kernel
theorem dX3_hasWire_9 : decode cX3_hasWire 9 = .ok (.if_icmp .ge 7, 3) := by decide +kernel
theorem dX3_hasWire_12 : decode cX3_hasWire 12 = .ok (.iconst 1, 1) := by decide +kernel
theorem dX3_hasWire_13 : decode cX3_hasWire 13 = .ok (.goto 4, 3) := by decide +kernel
theorem dX3_hasWire_16 : decode cX3_hasWire 16 = .ok (.iconst 0, 1) := by decide +kernel
theorem dX3_hasWire_17 : decode cX3_hasWire 17 = .ok (.ireturn, 1) := by decide +kernel
theorem dX3_moduleFault_0 : decode cX3_moduleFault 0 = .ok (.aload_n 0, 1) := by decide +kernel
theorem dX3_moduleFault_1 : decode cX3_moduleFault 1 = .ok (.iload_n 1, 1) := by decide +kernel
theorem dX3_moduleFault_2 : decode cX3_moduleFault 2 = .ok (.invokevirtual 49, 3) := by decide +kernel
theorem dX3_moduleFault_5 : decode cX3_moduleFault 5 = .ok (.ifCond .eq 9, 3) := by decide +kernel
theorem dX3_moduleFault_8 : decode cX3_moduleFault 8 = .ok (.getstatic 53, 3) := by decide +kernel
theorem dX3_moduleFault_11 : decode cX3_moduleFault 11 = .ok (.goto 6, 3) := by decide +kernel
theorem dX3_moduleFault_14 : decode cX3_moduleFault 14 = .ok (.getstatic 59, 3) := by decide +kernel
theorem dX3_moduleFault_17 : decode cX3_moduleFault 17 = .ok (.areturn, 1) := by decide +kernel
theorem dX3_wireFault_0 : decode cX3_wireFault 0 = .ok (.aload_n 0, 1) := by decide +kernel
theorem dX3_wireFault_1 : decode cX3_wireFault 1 = .ok (.iload_n 1, 1) := by decide +kernel
theorem dX3_wireFault_2 : decode cX3_wireFault 2 = .ok (.invokevirtual 62, 3) := by decide +kernel
theorem dX3_wireFault_5 : decode cX3_wireFault 5 = .ok (.ifCond .eq 9, 3) := by decide +kernel
theorem dX3_wireFault_8 : decode cX3_wireFault 8 = .ok (.getstatic 53, 3) := by decide +kernel
theorem dX3_wireFault_11 : decode cX3_wireFault 11 = .ok (.goto 6, 3) := by decide +kernel
theorem dX3_wireFault_14 : decode cX3_wireFault 14 = .ok (.getstatic 59, 3) := by decide +kernel
theorem dX3_wireFault_17 : decode cX3_wireFault 17 = .ok (.areturn, 1) := by decide +kernel
theorem dX3_newModuleFault_0 : decode cX3_newModuleFault 0 = .ok (.iload_n 1, 1) := by decide +kernel
theorem dX3_newModuleFault_1 : decode cX3_newModuleFault 1 = .ok (.ifCond .lt 17, 3) := by decide +kernel
theorem dX3_newModuleFault_4 : decode cX3_newModuleFault 4 = .ok (.iload_n 1, 1) := by decide +kernel
theorem dX3_newModuleFault_5 : decode cX3_newModuleFault 5 = .ok (.iconst 3, 1) := by decide +kernel
theorem dX3_newModuleFault_6 : decode cX3_newModuleFault 6 = .ok (.if_icmp .gt 12, 3) := by decide +kernel
theorem dX3_newModuleFault_9 : decode cX3_newModuleFault 9 = .ok (.iload_n 2, 1) := by decide +kernel
theorem dX3_newModuleFault_10 : decode cX3_newModuleFault 10 = .ok (.ifCond .lt 8, 3) := by decide +kernel
theorem dX3_newModuleFault_13 : decode cX3_newModuleFault 13 = .ok (.iload_n 2, 1) := by decide +kernel
theorem dX3_newModuleFault_14 : decode cX3_newModuleFault 14 = .ok (.iconst 3, 1) := by decide +kernel
theorem dX3_newModuleFault_15 : decode cX3_newModuleFault 15 = .ok (.if_icmp .le 7, 3) := by decide +kernel
theorem dX3_newModuleFault_18 : decode cX3_newModuleFault 18 = .ok (.getstatic 65, 3) := by decide +kernel
theorem dX3_newModuleFault_21 : decode cX3_newModuleFault 21 = .ok (.areturn, 1) := by decide +kernel
theorem dX3_newModuleFault_22 : decode cX3_newModuleFault 22 = .ok (.aload_n 0, 1) := by decide +kernel
theorem dX3_newModuleFault_23 : decode cX3_newModuleFault 23 = .ok (.getfield 36, 3) := by decide +kernel
theorem dX3_newModuleFault_26 : decode cX3_newModuleFault 26 = .ok (.bipush 8, 2) := by decide +kernel
theorem dX3_newModuleFault_28 : decode cX3_newModuleFault 28 = .ok (.if_icmp .lt 9, 3) := by decide +kernel
theorem dX3_newModuleFault_31 : decode cX3_newModuleFault 31 = .ok (.getstatic 68, 3) := by decide +kernel
theorem dX3_newModuleFault_34 : decode cX3_newModuleFault 34 = .ok (.goto 6, 3) := by decide +kernel
theorem dX3_newModuleFault_37 : decode cX3_newModuleFault 37 = .ok (.getstatic 53, 3) := by decide +kernel
theorem dX3_newModuleFault_40 : decode cX3_newModuleFault 40 = .ok (.areturn, 1) := by decide +kernel
theorem dX3_newWireFault_0 : decode cX3_newWireFault 0 = .ok (.aload_n 0, 1) := by decide +kernel
theorem dX3_newWireFault_1 : decode cX3_newWireFault 1 = .ok (.iload_n 1, 1) := by decide +kernel
theorem dX3_newWireFault_2 : decode cX3_newWireFault 2 = .ok (.invokevirtual 49, 3) := by decide +kernel
theorem dX3_newWireFault_5 : decode cX3_newWireFault 5 = .ok (.ifCond .eq 11, 3) := by decide +kernel
theorem dX3_newWireFault_8 : decode cX3_newWireFault 8 = .ok (.aload_n 0, 1) := by decide +kernel
theorem dX3_newWireFault_9 : decode cX3_newWireFault 9 = .ok (.iload_n 2, 1) := by decide +kernel
theorem dX3_newWireFault_10 : decode cX3_newWireFault 10 = .ok (.invokevirtual 49, 3) := by decide +kernel
theorem dX3_newWireFault_13 : decode cX3_newWireFault 13 = .ok (.ifCond .ne 7, 3) := by decide +kernel
theorem dX3_newWireFault_16 : decode cX3_newWireFault 16 = .ok (.getstatic 59, 3) := by decide +kernel
theorem dX3_newWireFault_19 : decode cX3_newWireFault 19 = .ok (.areturn, 1) := by decide +kernel
theorem dX3_newWireFault_20 : decode cX3_newWireFault 20 = .ok (.iload_n 3, 1) := by decide +kernel
theorem dX3_newWireFault_21 : decode cX3_newWireFault 21 = .ok (.iconst 1, 1) := by decide +kernel
theorem dX3_newWireFault_22 : decode cX3_newWireFault 22 = .ok (.if_icmp .lt 34, 3) := by decide +kernel
theorem dX3_newWireFault_25 : decode cX3_newWireFault 25 = .ok (.iload_n 3, 1) := by decide +kernel
theorem dX3_newWireFault_26 : decode cX3_newWireFault 26 = .ok (.bipush 6, 2) := by decide +kernel
theorem dX3_newWireFault_28 : decode cX3_newWireFault 28 = .ok (.if_icmp .gt 28, 3) := by decide +kernel
theorem dX3_newWireFault_31 : decode cX3_newWireFault 31 = .ok (.iload 4, 2) := by decide +kernel
theorem dX3_newWireFault_33 : decode cX3_newWireFault 33 = .ok (.iconst 1, 1) := by decide +kernel
theorem dX3_newWireFault_34 : decode cX3_newWireFault 34 = .ok (.if_icmp .lt 22, 3) := by decide +kernel
theorem dX3_newWireFault_37 : decode cX3_newWireFault 37 = .ok (.iload 4, 2) := by decide +kernel
theorem dX3_newWireFault_39 : decode cX3_newWireFault 39 = .ok (.bipush 6, 2) := by decide +kernel
theorem dX3_newWireFault_41 : decode cX3_newWireFault 41 = .ok (.if_icmp .gt 15, 3) := by decide +kernel
theorem dX3_newWireFault_44 : decode cX3_newWireFault 44 = .ok (.iload 5, 2) := by decide +kernel
theorem dX3_newWireFault_46 : decode cX3_newWireFault 46 = .ok (.ifCond .lt 10, 3) := by decide +kernel
theorem dX3_newWireFault_49 : decode cX3_newWireFault 49 = .ok (.iload 5, 2) := by decide +kernel
theorem dX3_newWireFault_51 : decode cX3_newWireFault 51 = .ok (.bipush 99, 2) := by decide +kernel
theorem dX3_newWireFault_53 : decode cX3_newWireFault 53 = .ok (.if_icmp .le 7, 3) := by decide +kernel
theorem dX3_newWireFault_56 : decode cX3_newWireFault 56 = .ok (.getstatic 65, 3) := by decide +kernel
theorem dX3_newWireFault_59 : decode cX3_newWireFault 59 = .ok (.areturn, 1) := by decide +kernel
theorem dX3_newWireFault_60 : decode cX3_newWireFault 60 = .ok (.aload_n 0, 1) := by decide +kernel
theorem dX3_newWireFault_61 : decode cX3_newWireFault 61 = .ok (.getfield 15, 3) := by decide +kernel
theorem dX3_newWireFault_64 : decode cX3_newWireFault 64 = .ok (.iload_n 1, 1) := by decide +kernel
theorem dX3_newWireFault_65 : decode cX3_newWireFault 65 = .ok (.iaload, 1) := by decide +kernel
theorem dX3_newWireFault_66 : decode cX3_newWireFault 66 = .ok (.aload_n 0, 1) := by decide +kernel
theorem dX3_newWireFault_67 : decode cX3_newWireFault 67 = .ok (.getfield 9, 3) := by decide +kernel
theorem dX3_newWireFault_70 : decode cX3_newWireFault 70 = .ok (.iload_n 2, 1) := by decide +kernel
theorem dX3_newWireFault_71 : decode cX3_newWireFault 71 = .ok (.iaload, 1) := by decide +kernel
theorem dX3_newWireFault_72 : decode cX3_newWireFault 72 = .ok (.if_icmp .ne 12, 3) := by decide +kernel
theorem dX3_newWireFault_75 : decode cX3_newWireFault 75 = .ok (.aload_n 0, 1) := by decide +kernel
theorem dX3_newWireFault_76 : decode cX3_newWireFault 76 = .ok (.getfield 40, 3) := by decide +kernel
theorem dX3_newWireFault_79 : decode cX3_newWireFault 79 = .ok (.bipush 14, 2) := by decide +kernel
theorem dX3_newWireFault_81 : decode cX3_newWireFault 81 = .ok (.if_icmp .lt 7, 3) := by decide +kernel
theorem dX3_newWireFault_84 : decode cX3_newWireFault 84 = .ok (.getstatic 68, 3) := by decide +kernel
theorem dX3_newWireFault_87 : decode cX3_newWireFault 87 = .ok (.areturn, 1) := by decide +kernel
theorem dX3_newWireFault_88 : decode cX3_newWireFault 88 = .ok (.iload 5, 2) := by decide +kernel
theorem dX3_newWireFault_90 : decode cX3_newWireFault 90 = .ok (.ifCond .ne 18, 3) := by decide +kernel
theorem dX3_newWireFault_93 : decode cX3_newWireFault 93 = .ok (.aload_n 0, 1) := by decide +kernel
theorem dX3_newWireFault_94 : decode cX3_newWireFault 94 = .ok (.iload_n 1, 1) := by decide +kernel
theorem dX3_newWireFault_95 : decode cX3_newWireFault 95 = .ok (.iload_n 2, 1) := by decide +kernel
theorem dX3_newWireFault_96 : decode cX3_newWireFault 96 = .ok (.invokevirtual 71, 3) := by decide +kernel
theorem dX3_newWireFault_99 : decode cX3_newWireFault 99 = .ok (.ifCond .eq 9, 3) := by decide +kernel
theorem dX3_newWireFault_102 : decode cX3_newWireFault 102 = .ok (.getstatic 68, 3) := by decide +kernel
theorem dX3_newWireFault_105 : decode cX3_newWireFault 105 = .ok (.goto 6, 3) := by decide +kernel
theorem dX3_newWireFault_108 : decode cX3_newWireFault 108 = .ok (.getstatic 53, 3) := by decide +kernel
theorem dX3_newWireFault_111 : decode cX3_newWireFault 111 = .ok (.areturn, 1) := by decide +kernel
theorem dX3_newMarksFault_0 : decode cX3_newMarksFault 0 = .ok (.aload_n 0, 1) := by decide +kernel
theorem dX3_newMarksFault_1 : decode cX3_newMarksFault 1 = .ok (.iload_n 1, 1) := by decide +kernel
theorem dX3_newMarksFault_2 : decode cX3_newMarksFault 2 = .ok (.invokevirtual 62, 3) := by decide +kernel
theorem dX3_newMarksFault_5 : decode cX3_newMarksFault 5 = .ok (.ifCond .ne 7, 3) := by decide +kernel
theorem dX3_newMarksFault_8 : decode cX3_newMarksFault 8 = .ok (.getstatic 59, 3) := by decide +kernel
theorem dX3_newMarksFault_11 : decode cX3_newMarksFault 11 = .ok (.areturn, 1) := by decide +kernel
theorem dX3_newMarksFault_12 : decode cX3_newMarksFault 12 = .ok (.iload_n 2, 1) := by decide +kernel
theorem dX3_newMarksFault_13 : decode cX3_newMarksFault 13 = .ok (.ifCond .lt 9, 3) := by decide +kernel
theorem dX3_newMarksFault_16 : decode cX3_newMarksFault 16 = .ok (.iload_n 2, 1) := by decide +kernel
theorem dX3_newMarksFault_17 : decode cX3_newMarksFault 17 = .ok (.bipush 99, 2) := by decide +kernel
theorem dX3_newMarksFault_19 : decode cX3_newMarksFault 19 = .ok (.if_icmp .le 7, 3) := by decide +kernel
theorem dX3_newMarksFault_22 : decode cX3_newMarksFault 22 = .ok (.getstatic 65, 3) := by decide +kernel
theorem dX3_newMarksFault_25 : decode cX3_newMarksFault 25 = .ok (.areturn, 1) := by decide +kernel
theorem dX3_newMarksFault_26 : decode cX3_newMarksFault 26 = .ok (.iload_n 2, 1) := by decide +kernel
theorem dX3_newMarksFault_27 : decode cX3_newMarksFault 27 = .ok (.ifCond .ne 28, 3) := by decide +kernel
theorem dX3_newMarksFault_30 : decode cX3_newMarksFault 30 = .ok (.aload_n 0, 1) := by decide +kernel
theorem dX3_newMarksFault_31 : decode cX3_newMarksFault 31 = .ok (.aload_n 0, 1) := by decide +kernel
theorem dX3_newMarksFault_32 : decode cX3_newMarksFault 32 = .ok (.getfield 21, 3) := by decide +kernel
theorem dX3_newMarksFault_35 : decode cX3_newMarksFault 35 = .ok (.iload_n 1, 1) := by decide +kernel
theorem dX3_newMarksFault_36 : decode cX3_newMarksFault 36 = .ok (.iaload, 1) := by decide +kernel
theorem dX3_newMarksFault_37 : decode cX3_newMarksFault 37 = .ok (.aload_n 0, 1) := by decide +kernel
theorem dX3_newMarksFault_38 : decode cX3_newMarksFault 38 = .ok (.getfield 24, 3) := by decide +kernel
theorem dX3_newMarksFault_41 : decode cX3_newMarksFault 41 = .ok (.iload_n 1, 1) := by decide +kernel
theorem dX3_newMarksFault_42 : decode cX3_newMarksFault 42 = .ok (.iaload, 1) := by decide +kernel
theorem dX3_newMarksFault_43 : decode cX3_newMarksFault 43 = .ok (.invokevirtual 71, 3) := by decide +kernel
theorem dX3_newMarksFault_46 : decode cX3_newMarksFault 46 = .ok (.ifCond .eq 9, 3) := by decide +kernel
theorem dX3_newMarksFault_49 : decode cX3_newMarksFault 49 = .ok (.getstatic 68, 3) := by decide +kernel
theorem dX3_newMarksFault_52 : decode cX3_newMarksFault 52 = .ok (.goto 6, 3) := by decide +kernel
theorem dX3_newMarksFault_55 : decode cX3_newMarksFault 55 = .ok (.getstatic 53, 3) := by decide +kernel
theorem dX3_newMarksFault_58 : decode cX3_newMarksFault 58 = .ok (.areturn, 1) := by decide +kernel
theorem dX3_workFault_0 : decode cX3_workFault 0 = .ok (.aload_n 0, 1) := by decide +kernel
theorem dX3_workFault_1 : decode cX3_workFault 1 = .ok (.iload_n 1, 1) := by decide +kernel
theorem dX3_workFault_2 : decode cX3_workFault 2 = .ok (.invokevirtual 49, 3) := by decide +kernel
theorem dX3_workFault_5 : decode cX3_workFault 5 = .ok (.ifCond .ne 7, 3) := by decide +kernel
theorem dX3_workFault_8 : decode cX3_workFault 8 = .ok (.getstatic 59, 3) := by decide +kernel
theorem dX3_workFault_11 : decode cX3_workFault 11 = .ok (.areturn, 1) := by decide +kernel
theorem dX3_workFault_12 : decode cX3_workFault 12 = .ok (.aload_n 0, 1) := by decide +kernel
theorem dX3_workFault_13 : decode cX3_workFault 13 = .ok (.iload_n 1, 1) := by decide +kernel
theorem dX3_workFault_14 : decode cX3_workFault 14 = .ok (.invokevirtual 75, 3) := by decide +kernel
theorem dX3_workFault_17 : decode cX3_workFault 17 = .ok (.ifCond .eq 9, 3) := by decide +kernel
theorem dX3_workFault_20 : decode cX3_workFault 20 = .ok (.getstatic 53, 3) := by decide +kernel
theorem dX3_workFault_23 : decode cX3_workFault 23 = .ok (.goto 6, 3) := by decide +kernel
theorem dX3_workFault_26 : decode cX3_workFault 26 = .ok (.getstatic 68, 3) := by decide +kernel
theorem dX3_workFault_29 : decode cX3_workFault 29 = .ok (.areturn, 1) := by decide +kernel
theorem dX3_newModule_0 : decode cX3_newModule 0 = .ok (.aload_n 0, 1) := by decide +kernel
theorem dX3_newModule_1 : decode cX3_newModule 1 = .ok (.getfield 9, 3) := by decide +kernel
theorem dX3_newModule_4 : decode cX3_newModule 4 = .ok (.aload_n 0, 1) := by decide +kernel
theorem dX3_newModule_5 : decode cX3_newModule 5 = .ok (.getfield 36, 3) := by decide +kernel
theorem dX3_newModule_8 : decode cX3_newModule 8 = .ok (.iload_n 1, 1) := by decide +kernel
theorem dX3_newModule_9 : decode cX3_newModule 9 = .ok (.iastore, 1) := by decide +kernel
theorem dX3_newModule_10 : decode cX3_newModule 10 = .ok (.aload_n 0, 1) := by decide +kernel
theorem dX3_newModule_11 : decode cX3_newModule 11 = .ok (.getfield 15, 3) := by decide +kernel
theorem dX3_newModule_14 : decode cX3_newModule 14 = .ok (.aload_n 0, 1) := by decide +kernel
theorem dX3_newModule_15 : decode cX3_newModule 15 = .ok (.getfield 36, 3) := by decide +kernel
theorem dX3_newModule_18 : decode cX3_newModule 18 = .ok (.iload_n 2, 1) := by decide +kernel
theorem dX3_newModule_19 : decode cX3_newModule 19 = .ok (.iastore, 1) := by decide +kernel
theorem dX3_newModule_20 : decode cX3_newModule 20 = .ok (.aload_n 0, 1) := by decide +kernel
theorem dX3_newModule_21 : decode cX3_newModule 21 = .ok (.getfield 18, 3) := by decide +kernel
theorem dX3_newModule_24 : decode cX3_newModule 24 = .ok (.aload_n 0, 1) := by decide +kernel
theorem dX3_newModule_25 : decode cX3_newModule 25 = .ok (.getfield 36, 3) := by decide +kernel
theorem dX3_newModule_28 : decode cX3_newModule 28 = .ok (.iconst 0, 1) := by decide +kernel
theorem dX3_newModule_29 : decode cX3_newModule 29 = .ok (.iastore, 1) := by decide +kernel
theorem dX3_newModule_30 : decode cX3_newModule 30 = .ok (.aload_n 0, 1) := by decide +kernel
theorem dX3_newModule_31 : decode cX3_newModule 31 = .ok (.dup, 1) := by decide +kernel
theorem dX3_newModule_32 : decode cX3_newModule 32 = .ok (.getfield 36, 3) := by decide +kernel
theorem dX3_newModule_35 : decode cX3_newModule 35 = .ok (.iconst 1, 1) := by decide +kernel
theorem dX3_newModule_36 : decode cX3_newModule 36 = .ok (.iadd, 1) := by decide +kernel
theorem dX3_newModule_37 : decode cX3_newModule 37 = .ok (.putfield 36, 3) := by decide +kernel
theorem dX3_newModule_40 : decode cX3_newModule 40 = .ok (.aload_n 0, 1) := by decide +kernel
theorem dX3_newModule_41 : decode cX3_newModule 41 = .ok (.getfield 36, 3) := by decide +kernel
theorem dX3_newModule_44 : decode cX3_newModule 44 = .ok (.iconst 1, 1) := by decide +kernel
theorem dX3_newModule_45 : decode cX3_newModule 45 = .ok (.isub, 1) := by decide +kernel
theorem dX3_newModule_46 : decode cX3_newModule 46 = .ok (.ireturn, 1) := by decide +kernel
theorem dX3_newWire_0 : decode cX3_newWire 0 = .ok (.aload_n 0, 1) := by decide +kernel
theorem dX3_newWire_1 : decode cX3_newWire 1 = .ok (.getfield 21, 3) := by decide +kernel
theorem dX3_newWire_4 : decode cX3_newWire 4 = .ok (.aload_n 0, 1) := by decide +kernel
theorem dX3_newWire_5 : decode cX3_newWire 5 = .ok (.getfield 40, 3) := by decide +kernel
theorem dX3_newWire_8 : decode cX3_newWire 8 = .ok (.iload_n 1, 1) := by decide +kernel
theorem dX3_newWire_9 : decode cX3_newWire 9 = .ok (.iastore, 1) := by decide +kernel
theorem dX3_newWire_10 : decode cX3_newWire 10 = .ok (.aload_n 0, 1) := by decide +kernel
theorem dX3_newWire_11 : decode cX3_newWire 11 = .ok (.getfield 24, 3) := by decide +kernel
theorem dX3_newWire_14 : decode cX3_newWire 14 = .ok (.aload_n 0, 1) := by decide +kernel
theorem dX3_newWire_15 : decode cX3_newWire 15 = .ok (.getfield 40, 3) := by decide +kernel
theorem dX3_newWire_18 : decode cX3_newWire 18 = .ok (.iload_n 2, 1) := by decide +kernel
theorem dX3_newWire_19 : decode cX3_newWire 19 = .ok (.iastore, 1) := by decide +kernel
theorem dX3_newWire_20 : decode cX3_newWire 20 = .ok (.aload_n 0, 1) := by decide +kernel
theorem dX3_newWire_21 : decode cX3_newWire 21 = .ok (.getfield 27, 3) := by decide +kernel
theorem dX3_newWire_24 : decode cX3_newWire 24 = .ok (.aload_n 0, 1) := by decide +kernel
theorem dX3_newWire_25 : decode cX3_newWire 25 = .ok (.getfield 40, 3) := by decide +kernel
theorem dX3_newWire_28 : decode cX3_newWire 28 = .ok (.iload_n 3, 1) := by decide +kernel
theorem dX3_newWire_29 : decode cX3_newWire 29 = .ok (.iastore, 1) := by decide +kernel
theorem dX3_newWire_30 : decode cX3_newWire 30 = .ok (.aload_n 0, 1) := by decide +kernel
theorem dX3_newWire_31 : decode cX3_newWire 31 = .ok (.getfield 30, 3) := by decide +kernel
theorem dX3_newWire_34 : decode cX3_newWire 34 = .ok (.aload_n 0, 1) := by decide +kernel
theorem dX3_newWire_35 : decode cX3_newWire 35 = .ok (.getfield 40, 3) := by decide +kernel
theorem dX3_newWire_38 : decode cX3_newWire 38 = .ok (.iload 4, 2) := by decide +kernel
theorem dX3_newWire_40 : decode cX3_newWire 40 = .ok (.iastore, 1) := by decide +kernel
theorem dX3_newWire_41 : decode cX3_newWire 41 = .ok (.aload_n 0, 1) := by decide +kernel
theorem dX3_newWire_42 : decode cX3_newWire 42 = .ok (.getfield 33, 3) := by decide +kernel
theorem dX3_newWire_45 : decode cX3_newWire 45 = .ok (.aload_n 0, 1) := by decide +kernel
theorem dX3_newWire_46 : decode cX3_newWire 46 = .ok (.getfield 40, 3) := by decide +kernel
theorem dX3_newWire_49 : decode cX3_newWire 49 = .ok (.iload 5, 2) := by decide +kernel
theorem dX3_newWire_51 : decode cX3_newWire 51 = .ok (.iastore, 1) := by decide +kernel
theorem dX3_newWire_52 : decode cX3_newWire 52 = .ok (.aload_n 0, 1) := by decide +kernel
theorem dX3_newWire_53 : decode cX3_newWire 53 = .ok (.dup, 1) := by decide +kernel
theorem dX3_newWire_54 : decode cX3_newWire 54 = .ok (.getfield 40, 3) := by decide +kernel
theorem dX3_newWire_57 : decode cX3_newWire 57 = .ok (.iconst 1, 1) := by decide +kernel
theorem dX3_newWire_58 : decode cX3_newWire 58 = .ok (.iadd, 1) := by decide +kernel
theorem dX3_newWire_59 : decode cX3_newWire 59 = .ok (.putfield 40, 3) := by decide +kernel
theorem dX3_newWire_62 : decode cX3_newWire 62 = .ok (.aload_n 0, 1) := by decide +kernel
theorem dX3_newWire_63 : decode cX3_newWire 63 = .ok (.getfield 40, 3) := by decide +kernel
theorem dX3_newWire_66 : decode cX3_newWire 66 = .ok (.iconst 1, 1) := by decide +kernel
theorem dX3_newWire_67 : decode cX3_newWire 67 = .ok (.isub, 1) := by decide +kernel
theorem dX3_newWire_68 : decode cX3_newWire 68 = .ok (.ireturn, 1) := by decide +kernel
theorem dX3_dropWire_0 : decode cX3_dropWire 0 = .ok (.aload_n 0, 1) := by decide +kernel
theorem dX3_dropWire_1 : decode cX3_dropWire 1 = .ok (.getfield 33, 3) := by decide +kernel
theorem dX3_dropWire_4 : decode cX3_dropWire 4 = .ok (.iload_n 1, 1) := by decide +kernel
theorem dX3_dropWire_5 : decode cX3_dropWire 5 = .ok (.iaload, 1) := by decide +kernel
theorem dX3_dropWire_6 : decode cX3_dropWire 6 = .ok (.istore_n 2, 1) := by decide +kernel
theorem dX3_dropWire_7 : decode cX3_dropWire 7 = .ok (.aload_n 0, 1) := by decide +kernel
theorem dX3_dropWire_8 : decode cX3_dropWire 8 = .ok (.dup, 1) := by decide +kernel
theorem dX3_dropWire_9 : decode cX3_dropWire 9 = .ok (.getfield 40, 3) := by decide +kernel
theorem dX3_dropWire_12 : decode cX3_dropWire 12 = .ok (.iconst 1, 1) := by decide +kernel
theorem dX3_dropWire_13 : decode cX3_dropWire 13 = .ok (.isub, 1) := by decide +kernel
theorem dX3_dropWire_14 : decode cX3_dropWire 14 = .ok (.putfield 40, 3) := by decide +kernel
theorem dX3_dropWire_17 : decode cX3_dropWire 17 = .ok (.iload_n 1, 1) := by decide +kernel
theorem dX3_dropWire_18 : decode cX3_dropWire 18 = .ok (.istore_n 3, 1) := by decide +kernel
theorem dX3_dropWire_19 : decode cX3_dropWire 19 = .ok (.iload_n 3, 1) := by decide +kernel
theorem dX3_dropWire_20 : decode cX3_dropWire 20 = .ok (.aload_n 0, 1) := by decide +kernel
theorem dX3_dropWire_21 : decode cX3_dropWire 21 = .ok (.getfield 40, 3) := by decide +kernel
theorem dX3_dropWire_24 : decode cX3_dropWire 24 = .ok (.if_icmp .ge 79, 3) := by decide +kernel
theorem dX3_dropWire_27 : decode cX3_dropWire 27 = .ok (.aload_n 0, 1) := by decide +kernel
theorem dX3_dropWire_28 : decode cX3_dropWire 28 = .ok (.getfield 21, 3) := by decide +kernel
theorem dX3_dropWire_31 : decode cX3_dropWire 31 = .ok (.iload_n 3, 1) := by decide +kernel
theorem dX3_dropWire_32 : decode cX3_dropWire 32 = .ok (.aload_n 0, 1) := by decide +kernel
theorem dX3_dropWire_33 : decode cX3_dropWire 33 = .ok (.getfield 21, 3) := by decide +kernel
theorem dX3_dropWire_36 : decode cX3_dropWire 36 = .ok (.iload_n 3, 1) := by decide +kernel
theorem dX3_dropWire_37 : decode cX3_dropWire 37 = .ok (.iconst 1, 1) := by decide +kernel
theorem dX3_dropWire_38 : decode cX3_dropWire 38 = .ok (.iadd, 1) := by decide +kernel
theorem dX3_dropWire_39 : decode cX3_dropWire 39 = .ok (.iaload, 1) := by decide +kernel
theorem dX3_dropWire_40 : decode cX3_dropWire 40 = .ok (.iastore, 1) := by decide +kernel
theorem dX3_dropWire_41 : decode cX3_dropWire 41 = .ok (.aload_n 0, 1) := by decide +kernel
theorem dX3_dropWire_42 : decode cX3_dropWire 42 = .ok (.getfield 24, 3) := by decide +kernel
theorem dX3_dropWire_45 : decode cX3_dropWire 45 = .ok (.iload_n 3, 1) := by decide +kernel
theorem dX3_dropWire_46 : decode cX3_dropWire 46 = .ok (.aload_n 0, 1) := by decide +kernel
theorem dX3_dropWire_47 : decode cX3_dropWire 47 = .ok (.getfield 24, 3) := by decide +kernel
theorem dX3_dropWire_50 : decode cX3_dropWire 50 = .ok (.iload_n 3, 1) := by decide +kernel
theorem dX3_dropWire_51 : decode cX3_dropWire 51 = .ok (.iconst 1, 1) := by decide +kernel
theorem dX3_dropWire_52 : decode cX3_dropWire 52 = .ok (.iadd, 1) := by decide +kernel
theorem dX3_dropWire_53 : decode cX3_dropWire 53 = .ok (.iaload, 1) := by decide +kernel
theorem dX3_dropWire_54 : decode cX3_dropWire 54 = .ok (.iastore, 1) := by decide +kernel
theorem dX3_dropWire_55 : decode cX3_dropWire 55 = .ok (.aload_n 0, 1) := by decide +kernel
theorem dX3_dropWire_56 : decode cX3_dropWire 56 = .ok (.getfield 27, 3) := by decide +kernel
theorem dX3_dropWire_59 : decode cX3_dropWire 59 = .ok (.iload_n 3, 1) := by decide +kernel
theorem dX3_dropWire_60 : decode cX3_dropWire 60 = .ok (.aload_n 0, 1) := by decide +kernel
theorem dX3_dropWire_61 : decode cX3_dropWire 61 = .ok (.getfield 27, 3) := by decide +kernel
theorem dX3_dropWire_64 : decode cX3_dropWire 64 = .ok (.iload_n 3, 1) := by decide +kernel
theorem dX3_dropWire_65 : decode cX3_dropWire 65 = .ok (.iconst 1, 1) := by decide +kernel
theorem dX3_dropWire_66 : decode cX3_dropWire 66 = .ok (.iadd, 1) := by decide +kernel
theorem dX3_dropWire_67 : decode cX3_dropWire 67 = .ok (.iaload, 1) := by decide +kernel
theorem dX3_dropWire_68 : decode cX3_dropWire 68 = .ok (.iastore, 1) := by decide +kernel
theorem dX3_dropWire_69 : decode cX3_dropWire 69 = .ok (.aload_n 0, 1) := by decide +kernel
theorem dX3_dropWire_70 : decode cX3_dropWire 70 = .ok (.getfield 30, 3) := by decide +kernel
theorem dX3_dropWire_73 : decode cX3_dropWire 73 = .ok (.iload_n 3, 1) := by decide +kernel
theorem dX3_dropWire_74 : decode cX3_dropWire 74 = .ok (.aload_n 0, 1) := by decide +kernel
theorem dX3_dropWire_75 : decode cX3_dropWire 75 = .ok (.getfield 30, 3) := by decide +kernel
theorem dX3_dropWire_78 : decode cX3_dropWire 78 = .ok (.iload_n 3, 1) := by decide +kernel
theorem dX3_dropWire_79 : decode cX3_dropWire 79 = .ok (.iconst 1, 1) := by decide +kernel
theorem dX3_dropWire_80 : decode cX3_dropWire 80 = .ok (.iadd, 1) := by decide +kernel
theorem dX3_dropWire_81 : decode cX3_dropWire 81 = .ok (.iaload, 1) := by decide +kernel
theorem dX3_dropWire_82 : decode cX3_dropWire 82 = .ok (.iastore, 1) := by decide +kernel
theorem dX3_dropWire_83 : decode cX3_dropWire 83 = .ok (.aload_n 0, 1) := by decide +kernel
theorem dX3_dropWire_84 : decode cX3_dropWire 84 = .ok (.getfield 33, 3) := by decide +kernel
theorem dX3_dropWire_87 : decode cX3_dropWire 87 = .ok (.iload_n 3, 1) := by decide +kernel
theorem dX3_dropWire_88 : decode cX3_dropWire 88 = .ok (.aload_n 0, 1) := by decide +kernel
theorem dX3_dropWire_89 : decode cX3_dropWire 89 = .ok (.getfield 33, 3) := by decide +kernel
theorem dX3_dropWire_92 : decode cX3_dropWire 92 = .ok (.iload_n 3, 1) := by decide +kernel
theorem dX3_dropWire_93 : decode cX3_dropWire 93 = .ok (.iconst 1, 1) := by decide +kernel
theorem dX3_dropWire_94 : decode cX3_dropWire 94 = .ok (.iadd, 1) := by decide +kernel
theorem dX3_dropWire_95 : decode cX3_dropWire 95 = .ok (.iaload, 1) := by decide +kernel
theorem dX3_dropWire_96 : decode cX3_dropWire 96 = .ok (.iastore, 1) := by decide +kernel
theorem dX3_dropWire_97 : decode cX3_dropWire 97 = .ok (.iinc 3 1, 3) := by decide +kernel
theorem dX3_dropWire_100 : decode cX3_dropWire 100 = .ok (.goto (-81), 3) := by decide +kernel
theorem dX3_dropWire_103 : decode cX3_dropWire 103 = .ok (.iload_n 2, 1) := by decide +kernel
theorem dX3_dropWire_104 : decode cX3_dropWire 104 = .ok (.ireturn, 1) := by decide +kernel
theorem dX3_newMarks_0 : decode cX3_newMarks 0 = .ok (.aload_n 0, 1) := by decide +kernel
theorem dX3_newMarks_1 : decode cX3_newMarks 1 = .ok (.getfield 33, 3) := by decide +kernel
theorem dX3_newMarks_4 : decode cX3_newMarks 4 = .ok (.iload_n 1, 1) := by decide +kernel
theorem dX3_newMarks_5 : decode cX3_newMarks 5 = .ok (.iaload, 1) := by decide +kernel
theorem dX3_newMarks_6 : decode cX3_newMarks 6 = .ok (.istore_n 3, 1) := by decide +kernel
theorem dX3_newMarks_7 : decode cX3_newMarks 7 = .ok (.aload_n 0, 1) := by decide +kernel
theorem dX3_newMarks_8 : decode cX3_newMarks 8 = .ok (.getfield 33, 3) := by decide +kernel
theorem dX3_newMarks_11 : decode cX3_newMarks 11 = .ok (.iload_n 1, 1) := by decide +kernel
theorem dX3_newMarks_12 : decode cX3_newMarks 12 = .ok (.iload_n 2, 1) := by decide +kernel
theorem dX3_newMarks_13 : decode cX3_newMarks 13 = .ok (.iastore, 1) := by decide +kernel
theorem dX3_newMarks_14 : decode cX3_newMarks 14 = .ok (.iload_n 3, 1) := by decide +kernel
theorem dX3_newMarks_15 : decode cX3_newMarks 15 = .ok (.ireturn, 1) := by decide +kernel
theorem dX3_doWork_0 : decode cX3_doWork 0 = .ok (.iconst 0, 1) := by decide +kernel
theorem dX3_doWork_1 : decode cX3_doWork 1 = .ok (.istore_n 2, 1) := by decide +kernel
theorem dX3_doWork_2 : decode cX3_doWork 2 = .ok (.iload_n 2, 1) := by decide +kernel
theorem dX3_doWork_3 : decode cX3_doWork 3 = .ok (.aload_n 0, 1) := by decide +kernel
theorem dX3_doWork_4 : decode cX3_doWork 4 = .ok (.getfield 40, 3) := by decide +kernel
theorem dX3_doWork_7 : decode cX3_doWork 7 = .ok (.if_icmp .ge 21, 3) := by decide +kernel
theorem dX3_doWork_10 : decode cX3_doWork 10 = .ok (.aload_n 0, 1) := by decide +kernel
theorem dX3_doWork_11 : decode cX3_doWork 11 = .ok (.getfield 33, 3) := by decide +kernel
theorem dX3_doWork_14 : decode cX3_doWork 14 = .ok (.iload_n 2, 1) := by decide +kernel
theorem dX3_doWork_15 : decode cX3_doWork 15 = .ok (.aload_n 0, 1) := by decide +kernel
theorem dX3_doWork_16 : decode cX3_doWork 16 = .ok (.iload_n 1, 1) := by decide +kernel
theorem dX3_doWork_17 : decode cX3_doWork 17 = .ok (.iload_n 2, 1) := by decide +kernel
theorem dX3_doWork_18 : decode cX3_doWork 18 = .ok (.invokevirtual 78, 3) := by decide +kernel
theorem dX3_doWork_21 : decode cX3_doWork 21 = .ok (.iastore, 1) := by decide +kernel
theorem dX3_doWork_22 : decode cX3_doWork 22 = .ok (.iinc 2 1, 3) := by decide +kernel
theorem dX3_doWork_25 : decode cX3_doWork 25 = .ok (.goto (-23), 3) := by decide +kernel
theorem dX3_doWork_28 : decode cX3_doWork 28 = .ok (.aload_n 0, 1) := by decide +kernel
theorem dX3_doWork_29 : decode cX3_doWork 29 = .ok (.getfield 18, 3) := by decide +kernel
theorem dX3_doWork_32 : decode cX3_doWork 32 = .ok (.iload_n 1, 1) := by decide +kernel
theorem dX3_doWork_33 : decode cX3_doWork 33 = .ok (.dup2, 1) := by decide +kernel
theorem dX3_doWork_34 : decode cX3_doWork 34 = .ok (.iaload, 1) := by decide +kernel
theorem dX3_doWork_35 : decode cX3_doWork 35 = .ok (.iconst 1, 1) := by decide +kernel
theorem dX3_doWork_36 : decode cX3_doWork 36 = .ok (.iadd, 1) := by decide +kernel
theorem dX3_doWork_37 : decode cX3_doWork 37 = .ok (.iastore, 1) := by decide +kernel
theorem dX3_doWork_38 : decode cX3_doWork 38 = .ok (.return_, 1) := by decide +kernel
theorem dX3_triesModule_0 : decode cX3_triesModule 0 = .ok (.aload_n 0, 1) := by decide +kernel
theorem dX3_triesModule_1 : decode cX3_triesModule 1 = .ok (.iload_n 1, 1) := by decide +kernel
theorem dX3_triesModule_2 : decode cX3_triesModule 2 = .ok (.iload_n 2, 1) := by decide +kernel
theorem dX3_triesModule_3 : decode cX3_triesModule 3 = .ok (.invokevirtual 82, 3) := by decide +kernel
theorem dX3_triesModule_6 : decode cX3_triesModule 6 = .ok (.getstatic 53, 3) := by decide +kernel
theorem dX3_triesModule_9 : decode cX3_triesModule 9 = .ok (.if_acmp .ne 7, 3) := by decide +kernel
theorem dX3_triesModule_12 : decode cX3_triesModule 12 = .ok (.iconst 1, 1) := by decide +kernel
theorem dX3_triesModule_13 : decode cX3_triesModule 13 = .ok (.goto 4, 3) := by decide +kernel
theorem dX3_triesModule_16 : decode cX3_triesModule 16 = .ok (.iconst 0, 1) := by decide +kernel
theorem dX3_triesModule_17 : decode cX3_triesModule 17 = .ok (.istore_n 3, 1) := by decide +kernel
theorem dX3_triesModule_18 : decode cX3_triesModule 18 = .ok (.iload_n 3, 1) := by decide +kernel
theorem dX3_triesModule_19 : decode cX3_triesModule 19 = .ok (.ifCond .eq 10, 3) := by decide +kernel
theorem dX3_triesModule_22 : decode cX3_triesModule 22 = .ok (.aload_n 0, 1) := by decide +kernel
theorem dX3_triesModule_23 : decode cX3_triesModule 23 = .ok (.iload_n 1, 1) := by decide +kernel
theorem dX3_triesModule_24 : decode cX3_triesModule 24 = .ok (.iload_n 2, 1) := by decide +kernel
theorem dX3_triesModule_25 : decode cX3_triesModule 25 = .ok (.invokevirtual 86, 3) := by decide +kernel
theorem dX3_triesModule_28 : decode cX3_triesModule 28 = .ok (.pop, 1) := by decide +kernel
theorem dX3_triesModule_29 : decode cX3_triesModule 29 = .ok (.iload_n 3, 1) := by decide +kernel
theorem dX3_triesModule_30 : decode cX3_triesModule 30 = .ok (.ireturn, 1) := by decide +kernel
theorem dX3_triesWire_0 : decode cX3_triesWire 0 = .ok (.aload_n 0, 1) := by decide +kernel
theorem dX3_triesWire_1 : decode cX3_triesWire 1 = .ok (.iload_n 1, 1) := by decide +kernel
theorem dX3_triesWire_2 : decode cX3_triesWire 2 = .ok (.iload_n 2, 1) := by decide +kernel
theorem dX3_triesWire_3 : decode cX3_triesWire 3 = .ok (.iload_n 3, 1) := by decide +kernel
theorem dX3_triesWire_4 : decode cX3_triesWire 4 = .ok (.iload 4, 2) := by decide +kernel
theorem dX3_triesWire_6 : decode cX3_triesWire 6 = .ok (.iload 5, 2) := by decide +kernel
theorem dX3_triesWire_8 : decode cX3_triesWire 8 = .ok (.invokevirtual 89, 3) := by decide +kernel
theorem dX3_triesWire_11 : decode cX3_triesWire 11 = .ok (.getstatic 53, 3) := by decide +kernel
theorem dX3_triesWire_14 : decode cX3_triesWire 14 = .ok (.if_acmp .ne 7, 3) := by decide +kernel
theorem dX3_triesWire_17 : decode cX3_triesWire 17 = .ok (.iconst 1, 1) := by decide +kernel
theorem dX3_triesWire_18 : decode cX3_triesWire 18 = .ok (.goto 4, 3) := by decide +kernel
theorem dX3_triesWire_21 : decode cX3_triesWire 21 = .ok (.iconst 0, 1) := by decide +kernel
theorem dX3_triesWire_22 : decode cX3_triesWire 22 = .ok (.istore 6, 2) := by decide +kernel
theorem dX3_triesWire_24 : decode cX3_triesWire 24 = .ok (.iload 6, 2) := by decide +kernel
theorem dX3_triesWire_26 : decode cX3_triesWire 26 = .ok (.ifCond .eq 15, 3) := by decide +kernel
theorem dX3_triesWire_29 : decode cX3_triesWire 29 = .ok (.aload_n 0, 1) := by decide +kernel
theorem dX3_triesWire_30 : decode cX3_triesWire 30 = .ok (.iload_n 1, 1) := by decide +kernel
theorem dX3_triesWire_31 : decode cX3_triesWire 31 = .ok (.iload_n 2, 1) := by decide +kernel
theorem dX3_triesWire_32 : decode cX3_triesWire 32 = .ok (.iload_n 3, 1) := by decide +kernel
theorem dX3_triesWire_33 : decode cX3_triesWire 33 = .ok (.iload 4, 2) := by decide +kernel
theorem dX3_triesWire_35 : decode cX3_triesWire 35 = .ok (.iload 5, 2) := by decide +kernel
theorem dX3_triesWire_37 : decode cX3_triesWire 37 = .ok (.invokevirtual 93, 3) := by decide +kernel
theorem dX3_triesWire_40 : decode cX3_triesWire 40 = .ok (.pop, 1) := by decide +kernel
theorem dX3_triesWire_41 : decode cX3_triesWire 41 = .ok (.iload 6, 2) := by decide +kernel
theorem dX3_triesWire_43 : decode cX3_triesWire 43 = .ok (.ireturn, 1) := by decide +kernel
theorem dX3_triesCut_0 : decode cX3_triesCut 0 = .ok (.aload_n 0, 1) := by decide +kernel
theorem dX3_triesCut_1 : decode cX3_triesCut 1 = .ok (.iload_n 1, 1) := by decide +kernel
theorem dX3_triesCut_2 : decode cX3_triesCut 2 = .ok (.invokevirtual 62, 3) := by decide +kernel
theorem dX3_triesCut_5 : decode cX3_triesCut 5 = .ok (.istore_n 2, 1) := by decide +kernel
theorem dX3_triesCut_6 : decode cX3_triesCut 6 = .ok (.iload_n 2, 1) := by decide +kernel
theorem dX3_triesCut_7 : decode cX3_triesCut 7 = .ok (.ifCond .eq 9, 3) := by decide +kernel
theorem dX3_triesCut_10 : decode cX3_triesCut 10 = .ok (.aload_n 0, 1) := by decide +kernel
theorem dX3_triesCut_11 : decode cX3_triesCut 11 = .ok (.iload_n 1, 1) := by decide +kernel
theorem dX3_triesCut_12 : decode cX3_triesCut 12 = .ok (.invokevirtual 97, 3) := by decide +kernel
theorem dX3_triesCut_15 : decode cX3_triesCut 15 = .ok (.pop, 1) := by decide +kernel
theorem dX3_triesCut_16 : decode cX3_triesCut 16 = .ok (.iload_n 2, 1) := by decide +kernel
theorem dX3_triesCut_17 : decode cX3_triesCut 17 = .ok (.ireturn, 1) := by decide +kernel
theorem dX3_triesMarks_0 : decode cX3_triesMarks 0 = .ok (.aload_n 0, 1) := by decide +kernel
theorem dX3_triesMarks_1 : decode cX3_triesMarks 1 = .ok (.iload_n 1, 1) := by decide +kernel
theorem dX3_triesMarks_2 : decode cX3_triesMarks 2 = .ok (.iload_n 2, 1) := by decide +kernel
theorem dX3_triesMarks_3 : decode cX3_triesMarks 3 = .ok (.invokevirtual 101, 3) := by decide +kernel
theorem dX3_triesMarks_6 : decode cX3_triesMarks 6 = .ok (.getstatic 53, 3) := by decide +kernel
theorem dX3_triesMarks_9 : decode cX3_triesMarks 9 = .ok (.if_acmp .ne 7, 3) := by decide +kernel
theorem dX3_triesMarks_12 : decode cX3_triesMarks 12 = .ok (.iconst 1, 1) := by decide +kernel
theorem dX3_triesMarks_13 : decode cX3_triesMarks 13 = .ok (.goto 4, 3) := by decide +kernel
theorem dX3_triesMarks_16 : decode cX3_triesMarks 16 = .ok (.iconst 0, 1) := by decide +kernel
theorem dX3_triesMarks_17 : decode cX3_triesMarks 17 = .ok (.istore_n 3, 1) := by decide +kernel
theorem dX3_triesMarks_18 : decode cX3_triesMarks 18 = .ok (.iload_n 3, 1) := by decide +kernel
theorem dX3_triesMarks_19 : decode cX3_triesMarks 19 = .ok (.ifCond .eq 10, 3) := by decide +kernel
theorem dX3_triesMarks_22 : decode cX3_triesMarks 22 = .ok (.aload_n 0, 1) := by decide +kernel
theorem dX3_triesMarks_23 : decode cX3_triesMarks 23 = .ok (.iload_n 1, 1) := by decide +kernel
theorem dX3_triesMarks_24 : decode cX3_triesMarks 24 = .ok (.iload_n 2, 1) := by decide +kernel
theorem dX3_triesMarks_25 : decode cX3_triesMarks 25 = .ok (.invokevirtual 104, 3) := by decide +kernel
theorem dX3_triesMarks_28 : decode cX3_triesMarks 28 = .ok (.pop, 1) := by decide +kernel
theorem dX3_triesMarks_29 : decode cX3_triesMarks 29 = .ok (.iload_n 3, 1) := by decide +kernel
theorem dX3_triesMarks_30 : decode cX3_triesMarks 30 = .ok (.ireturn, 1) := by decide +kernel
theorem dX3_triesWork_0 : decode cX3_triesWork 0 = .ok (.aload_n 0, 1) := by decide +kernel
theorem dX3_triesWork_1 : decode cX3_triesWork 1 = .ok (.iload_n 1, 1) := by decide +kernel
theorem dX3_triesWork_2 : decode cX3_triesWork 2 = .ok (.invokevirtual 107, 3) := by decide +kernel
theorem dX3_triesWork_5 : decode cX3_triesWork 5 = .ok (.getstatic 53, 3) := by decide +kernel
theorem dX3_triesWork_8 : decode cX3_triesWork 8 = .ok (.if_acmp .ne 7, 3) := by decide +kernel
theorem dX3_triesWork_11 : decode cX3_triesWork 11 = .ok (.iconst 1, 1) := by decide +kernel
theorem dX3_triesWork_12 : decode cX3_triesWork 12 = .ok (.goto 4, 3) := by decide +kernel
theorem dX3_triesWork_15 : decode cX3_triesWork 15 = .ok (.iconst 0, 1) := by decide +kernel
theorem dX3_triesWork_16 : decode cX3_triesWork 16 = .ok (.istore_n 2, 1) := by decide +kernel
theorem dX3_triesWork_17 : decode cX3_triesWork 17 = .ok (.iload_n 2, 1) := by decide +kernel
theorem dX3_triesWork_18 : decode cX3_triesWork 18 = .ok (.ifCond .eq 8, 3) := by decide +kernel
theorem dX3_triesWork_21 : decode cX3_triesWork 21 = .ok (.aload_n 0, 1) := by decide +kernel
theorem dX3_triesWork_22 : decode cX3_triesWork 22 = .ok (.iload_n 1, 1) := by decide +kernel
theorem dX3_triesWork_23 : decode cX3_triesWork 23 = .ok (.invokevirtual 111, 3) := by decide +kernel
theorem dX3_triesWork_26 : decode cX3_triesWork 26 = .ok (.iload_n 2, 1) := by decide +kernel
theorem dX3_triesWork_27 : decode cX3_triesWork 27 = .ok (.ireturn, 1) := by decide +kernel
theorem dX3_hasMarks_0 : decode cX3_hasMarks 0 = .ok (.aload_n 0, 1) := by decide +kernel
theorem dX3_hasMarks_1 : decode cX3_hasMarks 1 = .ok (.iload_n 1, 1) := by decide +kernel
theorem dX3_hasMarks_2 : decode cX3_hasMarks 2 = .ok (.invokevirtual 62, 3) := by decide +kernel
theorem dX3_hasMarks_5 : decode cX3_hasMarks 5 = .ok (.ifCond .eq 17, 3) := by decide +kernel
theorem dX3_hasMarks_8 : decode cX3_hasMarks 8 = .ok (.aload_n 0, 1) := by decide +kernel
theorem dX3_hasMarks_9 : decode cX3_hasMarks 9 = .ok (.getfield 33, 3) := by decide +kernel
theorem dX3_hasMarks_12 : decode cX3_hasMarks 12 = .ok (.iload_n 1, 1) := by decide +kernel
theorem dX3_hasMarks_13 : decode cX3_hasMarks 13 = .ok (.iaload, 1) := by decide +kernel
theorem dX3_hasMarks_14 : decode cX3_hasMarks 14 = .ok (.iload_n 2, 1) := by decide +kernel
theorem dX3_hasMarks_15 : decode cX3_hasMarks 15 = .ok (.if_icmp .lt 7, 3) := by decide +kernel
theorem dX3_hasMarks_18 : decode cX3_hasMarks 18 = .ok (.iconst 1, 1) := by decide +kernel
theorem dX3_hasMarks_19 : decode cX3_hasMarks 19 = .ok (.goto 4, 3) := by decide +kernel
theorem dX3_hasMarks_22 : decode cX3_hasMarks 22 = .ok (.iconst 0, 1) := by decide +kernel
theorem dX3_hasMarks_23 : decode cX3_hasMarks 23 = .ok (.ireturn, 1) := by decide +kernel
theorem dX3_hasWorked_0 : decode cX3_hasWorked 0 = .ok (.aload_n 0, 1) := by decide +kernel
theorem dX3_hasWorked_1 : decode cX3_hasWorked 1 = .ok (.iload_n 1, 1) := by decide +kernel
theorem dX3_hasWorked_2 : decode cX3_hasWorked 2 = .ok (.invokevirtual 49, 3) := by decide +kernel
theorem dX3_hasWorked_5 : decode cX3_hasWorked 5 = .ok (.ifCond .eq 17, 3) := by decide +kernel
theorem dX3_hasWorked_8 : decode cX3_hasWorked 8 = .ok (.aload_n 0, 1) := by decide +kernel
theorem dX3_hasWorked_9 : decode cX3_hasWorked 9 = .ok (.getfield 18, 3) := by decide +kernel
theorem dX3_hasWorked_12 : decode cX3_hasWorked 12 = .ok (.iload_n 1, 1) := by decide +kernel
theorem dX3_hasWorked_13 : decode cX3_hasWorked 13 = .ok (.iaload, 1) := by decide +kernel
theorem dX3_hasWorked_14 : decode cX3_hasWorked 14 = .ok (.iload_n 2, 1) := by decide +kernel
theorem dX3_hasWorked_15 : decode cX3_hasWorked 15 = .ok (.if_icmp .lt 7, 3) := by decide +kernel
theorem dX3_hasWorked_18 : decode cX3_hasWorked 18 = .ok (.iconst 1, 1) := by decide +kernel
theorem dX3_hasWorked_19 : decode cX3_hasWorked 19 = .ok (.goto 4, 3) := by decide +kernel
theorem dX3_hasWorked_22 : decode cX3_hasWorked 22 = .ok (.iconst 0, 1) := by decide +kernel
theorem dX3_hasWorked_23 : decode cX3_hasWorked 23 = .ok (.ireturn, 1) := by decide +kernel
theorem dX3_canWork_0 : decode cX3_canWork 0 = .ok (.iconst 0, 1) := by decide +kernel
theorem dX3_canWork_1 : decode cX3_canWork 1 = .ok (.istore_n 2, 1) := by decide +kernel
theorem dX3_canWork_2 : decode cX3_canWork 2 = .ok (.iload_n 2, 1) := by decide +kernel
theorem dX3_canWork_3 : decode cX3_canWork 3 = .ok (.aload_n 0, 1) := by decide +kernel
theorem dX3_canWork_4 : decode cX3_canWork 4 = .ok (.getfield 40, 3) := by decide +kernel
theorem dX3_canWork_7 : decode cX3_canWork 7 = .ok (.if_icmp .ge 48, 3) := by decide +kernel
theorem dX3_canWork_10 : decode cX3_canWork 10 = .ok (.aload_n 0, 1) := by decide +kernel
theorem dX3_canWork_11 : decode cX3_canWork 11 = .ok (.getfield 24, 3) := by decide +kernel
theorem dX3_canWork_14 : decode cX3_canWork 14 = .ok (.iload_n 2, 1) := by decide +kernel
theorem dX3_canWork_15 : decode cX3_canWork 15 = .ok (.iaload, 1) := by decide +kernel
theorem dX3_canWork_16 : decode cX3_canWork 16 = .ok (.iload_n 1, 1) := by decide +kernel
theorem dX3_canWork_17 : decode cX3_canWork 17 = .ok (.if_icmp .ne 18, 3) := by decide +kernel
theorem dX3_canWork_20 : decode cX3_canWork 20 = .ok (.aload_n 0, 1) := by decide +kernel
theorem dX3_canWork_21 : decode cX3_canWork 21 = .ok (.getfield 33, 3) := by decide +kernel
theorem dX3_canWork_24 : decode cX3_canWork 24 = .ok (.iload_n 2, 1) := by decide +kernel
theorem dX3_canWork_25 : decode cX3_canWork 25 = .ok (.iaload, 1) := by decide +kernel
theorem dX3_canWork_26 : decode cX3_canWork 26 = .ok (.aload_n 0, 1) := by decide +kernel
theorem dX3_canWork_27 : decode cX3_canWork 27 = .ok (.getfield 30, 3) := by decide +kernel
theorem dX3_canWork_30 : decode cX3_canWork 30 = .ok (.iload_n 2, 1) := by decide +kernel
theorem dX3_canWork_31 : decode cX3_canWork 31 = .ok (.iaload, 1) := by decide +kernel
theorem dX3_canWork_32 : decode cX3_canWork 32 = .ok (.if_icmp .lt 15, 3) := by decide +kernel
theorem dX3_canWork_35 : decode cX3_canWork 35 = .ok (.aload_n 0, 1) := by decide +kernel
theorem dX3_canWork_36 : decode cX3_canWork 36 = .ok (.iload_n 1, 1) := by decide +kernel
theorem dX3_canWork_37 : decode cX3_canWork 37 = .ok (.iload_n 2, 1) := by decide +kernel
theorem dX3_canWork_38 : decode cX3_canWork 38 = .ok (.invokevirtual 78, 3) := by decide +kernel
theorem dX3_canWork_41 : decode cX3_canWork 41 = .ok (.sipush 999, 3) := by decide +kernel
theorem dX3_canWork_44 : decode cX3_canWork 44 = .ok (.if_icmp .le 5, 3) := by decide +kernel
theorem dX3_canWork_47 : decode cX3_canWork 47 = .ok (.iconst 0, 1) := by decide +kernel
theorem dX3_canWork_48 : decode cX3_canWork 48 = .ok (.ireturn, 1) := by decide +kernel
theorem dX3_canWork_49 : decode cX3_canWork 49 = .ok (.iinc 2 1, 3) := by decide +kernel
theorem dX3_canWork_52 : decode cX3_canWork 52 = .ok (.goto (-50), 3) := by decide +kernel
theorem dX3_canWork_55 : decode cX3_canWork 55 = .ok (.iconst 1, 1) := by decide +kernel
theorem dX3_canWork_56 : decode cX3_canWork 56 = .ok (.ireturn, 1) := by decide +kernel
theorem dX3_marksBehind_0 : decode cX3_marksBehind 0 = .ok (.aload_n 0, 1) := by decide +kernel
theorem dX3_marksBehind_1 : decode cX3_marksBehind 1 = .ok (.getfield 33, 3) := by decide +kernel
theorem dX3_marksBehind_4 : decode cX3_marksBehind 4 = .ok (.iload_n 2, 1) := by decide +kernel
theorem dX3_marksBehind_5 : decode cX3_marksBehind 5 = .ok (.iaload, 1) := by decide +kernel
theorem dX3_marksBehind_6 : decode cX3_marksBehind 6 = .ok (.aload_n 0, 1) := by decide +kernel
theorem dX3_marksBehind_7 : decode cX3_marksBehind 7 = .ok (.getfield 24, 3) := by decide +kernel
theorem dX3_marksBehind_10 : decode cX3_marksBehind 10 = .ok (.iload_n 2, 1) := by decide +kernel
theorem dX3_marksBehind_11 : decode cX3_marksBehind 11 = .ok (.iaload, 1) := by decide +kernel
theorem dX3_marksBehind_12 : decode cX3_marksBehind 12 = .ok (.iload_n 1, 1) := by decide +kernel
theorem dX3_marksBehind_13 : decode cX3_marksBehind 13 = .ok (.if_icmp .ne 12, 3) := by decide +kernel
theorem dX3_marksBehind_16 : decode cX3_marksBehind 16 = .ok (.aload_n 0, 1) := by decide +kernel
theorem dX3_marksBehind_17 : decode cX3_marksBehind 17 = .ok (.getfield 30, 3) := by decide +kernel
theorem dX3_marksBehind_20 : decode cX3_marksBehind 20 = .ok (.iload_n 2, 1) := by decide +kernel
theorem dX3_marksBehind_21 : decode cX3_marksBehind 21 = .ok (.iaload, 1) := by decide +kernel
theorem dX3_marksBehind_22 : decode cX3_marksBehind 22 = .ok (.goto 4, 3) := by decide +kernel
theorem dX3_marksBehind_25 : decode cX3_marksBehind 25 = .ok (.iconst 0, 1) := by decide +kernel
theorem dX3_marksBehind_26 : decode cX3_marksBehind 26 = .ok (.isub, 1) := by decide +kernel
theorem dX3_marksBehind_27 : decode cX3_marksBehind 27 = .ok (.aload_n 0, 1) := by decide +kernel
theorem dX3_marksBehind_28 : decode cX3_marksBehind 28 = .ok (.getfield 21, 3) := by decide +kernel
theorem dX3_marksBehind_31 : decode cX3_marksBehind 31 = .ok (.iload_n 2, 1) := by decide +kernel
theorem dX3_marksBehind_32 : decode cX3_marksBehind 32 = .ok (.iaload, 1) := by decide +kernel
theorem dX3_marksBehind_33 : decode cX3_marksBehind 33 = .ok (.iload_n 1, 1) := by decide +kernel
theorem dX3_marksBehind_34 : decode cX3_marksBehind 34 = .ok (.if_icmp .ne 12, 3) := by decide +kernel
theorem dX3_marksBehind_37 : decode cX3_marksBehind 37 = .ok (.aload_n 0, 1) := by decide +kernel
theorem dX3_marksBehind_38 : decode cX3_marksBehind 38 = .ok (.getfield 27, 3) := by decide +kernel
theorem dX3_marksBehind_41 : decode cX3_marksBehind 41 = .ok (.iload_n 2, 1) := by decide +kernel
theorem dX3_marksBehind_42 : decode cX3_marksBehind 42 = .ok (.iaload, 1) := by decide +kernel
theorem dX3_marksBehind_43 : decode cX3_marksBehind 43 = .ok (.goto 4, 3) := by decide +kernel
theorem dX3_marksBehind_46 : decode cX3_marksBehind 46 = .ok (.iconst 0, 1) := by decide +kernel
theorem dX3_marksBehind_47 : decode cX3_marksBehind 47 = .ok (.iadd, 1) := by decide +kernel
theorem dX3_marksBehind_48 : decode cX3_marksBehind 48 = .ok (.ireturn, 1) := by decide +kernel
theorem dX3_gain_0 : decode cX3_gain 0 = .ok (.iconst 0, 1) := by decide +kernel
theorem dX3_gain_1 : decode cX3_gain 1 = .ok (.istore_n 2, 1) := by decide +kernel
theorem dX3_gain_2 : decode cX3_gain 2 = .ok (.iconst 0, 1) := by decide +kernel
theorem dX3_gain_3 : decode cX3_gain 3 = .ok (.istore_n 3, 1) := by decide +kernel
theorem dX3_gain_4 : decode cX3_gain 4 = .ok (.iload_n 3, 1) := by decide +kernel
theorem dX3_gain_5 : decode cX3_gain 5 = .ok (.aload_n 0, 1) := by decide +kernel
theorem dX3_gain_6 : decode cX3_gain 6 = .ok (.getfield 40, 3) := by decide +kernel
theorem dX3_gain_9 : decode cX3_gain 9 = .ok (.if_icmp .ge 25, 3) := by decide +kernel
theorem dX3_gain_12 : decode cX3_gain 12 = .ok (.iload_n 2, 1) := by decide +kernel
theorem dX3_gain_13 : decode cX3_gain 13 = .ok (.aload_n 0, 1) := by decide +kernel
theorem dX3_gain_14 : decode cX3_gain 14 = .ok (.iload_n 1, 1) := by decide +kernel
theorem dX3_gain_15 : decode cX3_gain 15 = .ok (.iload_n 3, 1) := by decide +kernel
theorem dX3_gain_16 : decode cX3_gain 16 = .ok (.invokevirtual 78, 3) := by decide +kernel
theorem dX3_gain_19 : decode cX3_gain 19 = .ok (.aload_n 0, 1) := by decide +kernel
theorem dX3_gain_20 : decode cX3_gain 20 = .ok (.getfield 33, 3) := by decide +kernel
theorem dX3_gain_23 : decode cX3_gain 23 = .ok (.iload_n 3, 1) := by decide +kernel
theorem dX3_gain_24 : decode cX3_gain 24 = .ok (.iaload, 1) := by decide +kernel
theorem dX3_gain_25 : decode cX3_gain 25 = .ok (.isub, 1) := by decide +kernel
theorem dX3_gain_26 : decode cX3_gain 26 = .ok (.iadd, 1) := by decide +kernel
theorem dX3_gain_27 : decode cX3_gain 27 = .ok (.istore_n 2, 1) := by decide +kernel
theorem dX3_gain_28 : decode cX3_gain 28 = .ok (.iinc 3 1, 3) := by decide +kernel
theorem dX3_gain_31 : decode cX3_gain 31 = .ok (.goto (-27), 3) := by decide +kernel
theorem dX3_gain_34 : decode cX3_gain 34 = .ok (.iload_n 2, 1) := by decide +kernel
theorem dX3_gain_35 : decode cX3_gain 35 = .ok (.ireturn, 1) := by decide +kernel
theorem dX3_allMarks_0 : decode cX3_allMarks 0 = .ok (.iconst 0, 1) := by decide +kernel
theorem dX3_allMarks_1 : decode cX3_allMarks 1 = .ok (.istore_n 1, 1) := by decide +kernel
theorem dX3_allMarks_2 : decode cX3_allMarks 2 = .ok (.iconst 0, 1) := by decide +kernel
theorem dX3_allMarks_3 : decode cX3_allMarks 3 = .ok (.istore_n 2, 1) := by decide +kernel
theorem dX3_allMarks_4 : decode cX3_allMarks 4 = .ok (.iload_n 2, 1) := by decide +kernel
theorem dX3_allMarks_5 : decode cX3_allMarks 5 = .ok (.aload_n 0, 1) := by decide +kernel
theorem dX3_allMarks_6 : decode cX3_allMarks 6 = .ok (.getfield 40, 3) := by decide +kernel
theorem dX3_allMarks_9 : decode cX3_allMarks 9 = .ok (.if_icmp .ge 18, 3) := by decide +kernel
theorem dX3_allMarks_12 : decode cX3_allMarks 12 = .ok (.iload_n 1, 1) := by decide +kernel
theorem dX3_allMarks_13 : decode cX3_allMarks 13 = .ok (.aload_n 0, 1) := by decide +kernel
theorem dX3_allMarks_14 : decode cX3_allMarks 14 = .ok (.getfield 33, 3) := by decide +kernel
theorem dX3_allMarks_17 : decode cX3_allMarks 17 = .ok (.iload_n 2, 1) := by decide +kernel
theorem dX3_allMarks_18 : decode cX3_allMarks 18 = .ok (.iaload, 1) := by decide +kernel
theorem dX3_allMarks_19 : decode cX3_allMarks 19 = .ok (.iadd, 1) := by decide +kernel
theorem dX3_allMarks_20 : decode cX3_allMarks 20 = .ok (.istore_n 1, 1) := by decide +kernel
theorem dX3_allMarks_21 : decode cX3_allMarks 21 = .ok (.iinc 2 1, 3) := by decide +kernel
theorem dX3_allMarks_24 : decode cX3_allMarks 24 = .ok (.goto (-20), 3) := by decide +kernel
theorem dX3_allMarks_27 : decode cX3_allMarks 27 = .ok (.iload_n 1, 1) := by decide +kernel
theorem dX3_allMarks_28 : decode cX3_allMarks 28 = .ok (.ireturn, 1) := by decide +kernel
theorem dX3_allWorks_0 : decode cX3_allWorks 0 = .ok (.iconst 0, 1) := by decide +kernel
theorem dX3_allWorks_1 : decode cX3_allWorks 1 = .ok (.istore_n 1, 1) := by decide +kernel
theorem dX3_allWorks_2 : decode cX3_allWorks 2 = .ok (.iconst 0, 1) := by decide +kernel
theorem dX3_allWorks_3 : decode cX3_allWorks 3 = .ok (.istore_n 2, 1) := by decide +kernel
theorem dX3_allWorks_4 : decode cX3_allWorks 4 = .ok (.iload_n 2, 1) := by decide +kernel
theorem dX3_allWorks_5 : decode cX3_allWorks 5 = .ok (.aload_n 0, 1) := by decide +kernel
theorem dX3_allWorks_6 : decode cX3_allWorks 6 = .ok (.getfield 36, 3) := by decide +kernel
theorem dX3_allWorks_9 : decode cX3_allWorks 9 = .ok (.if_icmp .ge 18, 3) := by decide +kernel
theorem dX3_allWorks_12 : decode cX3_allWorks 12 = .ok (.iload_n 1, 1) := by decide +kernel
theorem dX3_allWorks_13 : decode cX3_allWorks 13 = .ok (.aload_n 0, 1) := by decide +kernel
theorem dX3_allWorks_14 : decode cX3_allWorks 14 = .ok (.getfield 18, 3) := by decide +kernel
theorem dX3_allWorks_17 : decode cX3_allWorks 17 = .ok (.iload_n 2, 1) := by decide +kernel
theorem dX3_allWorks_18 : decode cX3_allWorks 18 = .ok (.iaload, 1) := by decide +kernel
theorem dX3_allWorks_19 : decode cX3_allWorks 19 = .ok (.iadd, 1) := by decide +kernel
theorem dX3_allWorks_20 : decode cX3_allWorks 20 = .ok (.istore_n 1, 1) := by decide +kernel
theorem dX3_allWorks_21 : decode cX3_allWorks 21 = .ok (.iinc 2 1, 3) := by decide +kernel
theorem dX3_allWorks_24 : decode cX3_allWorks 24 = .ok (.goto (-20), 3) := by decide +kernel
theorem dX3_allWorks_27 : decode cX3_allWorks 27 = .ok (.iload_n 1, 1) := by decide +kernel
theorem dX3_allWorks_28 : decode cX3_allWorks 28 = .ok (.ireturn, 1) := by decide +kernel
theorem dX3_count_0 : decode cX3_count 0 = .ok (.iconst 0, 1) := by decide +kernel
theorem dX3_count_1 : decode cX3_count 1 = .ok (.istore_n 3, 1) := by decide +kernel
theorem dX3_count_2 : decode cX3_count 2 = .ok (.iconst 0, 1) := by decide +kernel
theorem dX3_count_3 : decode cX3_count 3 = .ok (.istore 4, 2) := by decide +kernel
theorem dX3_count_5 : decode cX3_count 5 = .ok (.iload 4, 2) := by decide +kernel
theorem dX3_count_7 : decode cX3_count 7 = .ok (.iload_n 1, 1) := by decide +kernel
theorem dX3_count_8 : decode cX3_count 8 = .ok (.if_icmp .ge 27, 3) := by decide +kernel
theorem dX3_count_11 : decode cX3_count 11 = .ok (.iload 4, 2) := by decide +kernel
theorem dX3_count_13 : decode cX3_count 13 = .ok (.aload_n 0, 1) := by decide +kernel
theorem dX3_count_14 : decode cX3_count 14 = .ok (.arraylength, 1) := by decide +kernel
theorem dX3_count_15 : decode cX3_count 15 = .ok (.if_icmp .ge 20, 3) := by decide +kernel
theorem dX3_count_18 : decode cX3_count 18 = .ok (.aload_n 0, 1) := by decide +kernel
theorem dX3_count_19 : decode cX3_count 19 = .ok (.iload 4, 2) := by decide +kernel
theorem dX3_count_21 : decode cX3_count 21 = .ok (.iaload, 1) := by decide +kernel
theorem dX3_count_22 : decode cX3_count 22 = .ok (.iload_n 2, 1) := by decide +kernel
theorem dX3_count_23 : decode cX3_count 23 = .ok (.if_icmp .ne 6, 3) := by decide +kernel
theorem dX3_count_26 : decode cX3_count 26 = .ok (.iinc 3 1, 3) := by decide +kernel
theorem dX3_count_29 : decode cX3_count 29 = .ok (.iinc 4 1, 3) := by decide +kernel
theorem dX3_count_32 : decode cX3_count 32 = .ok (.goto (-27), 3) := by decide +kernel
theorem dX3_count_35 : decode cX3_count 35 = .ok (.iload_n 3, 1) := by decide +kernel
theorem dX3_count_36 : decode cX3_count 36 = .ok (.ireturn, 1) := by decide +kernel
theorem dX3_ready_0 : decode cX3_ready 0 = .ok (.iconst 0, 1) := by decide +kernel
theorem dX3_ready_1 : decode cX3_ready 1 = .ok (.istore_n 1, 1) := by decide +kernel
theorem dX3_ready_2 : decode cX3_ready 2 = .ok (.iconst 0, 1) := by decide +kernel
theorem dX3_ready_3 : decode cX3_ready 3 = .ok (.istore_n 2, 1) := by decide +kernel
theorem dX3_ready_4 : decode cX3_ready 4 = .ok (.iload_n 2, 1) := by decide +kernel
theorem dX3_ready_5 : decode cX3_ready 5 = .ok (.aload_n 0, 1) := by decide +kernel
theorem dX3_ready_6 : decode cX3_ready 6 = .ok (.getfield 36, 3) := by decide +kernel
theorem dX3_ready_9 : decode cX3_ready 9 = .ok (.if_icmp .ge 23, 3) := by decide +kernel
theorem dX3_ready_12 : decode cX3_ready 12 = .ok (.aload_n 0, 1) := by decide +kernel
theorem dX3_ready_13 : decode cX3_ready 13 = .ok (.iload_n 2, 1) := by decide +kernel
theorem dX3_ready_14 : decode cX3_ready 14 = .ok (.invokevirtual 75, 3) := by decide +kernel
theorem dX3_ready_17 : decode cX3_ready 17 = .ok (.ifCond .eq 9, 3) := by decide +kernel
theorem dX3_ready_20 : decode cX3_ready 20 = .ok (.iload_n 1, 1) := by decide +kernel
theorem dX3_ready_21 : decode cX3_ready 21 = .ok (.iconst 1, 1) := by decide +kernel
theorem dX3_ready_22 : decode cX3_ready 22 = .ok (.iload_n 2, 1) := by decide +kernel
theorem dX3_ready_23 : decode cX3_ready 23 = .ok (.ishl, 1) := by decide +kernel
theorem dX3_ready_24 : decode cX3_ready 24 = .ok (.ior, 1) := by decide +kernel
theorem dX3_ready_25 : decode cX3_ready 25 = .ok (.istore_n 1, 1) := by decide +kernel
theorem dX3_ready_26 : decode cX3_ready 26 = .ok (.iinc 2 1, 3) := by decide +kernel
theorem dX3_ready_29 : decode cX3_ready 29 = .ok (.goto (-25), 3) := by decide +kernel
theorem dX3_ready_32 : decode cX3_ready 32 = .ok (.iload_n 1, 1) := by decide +kernel
theorem dX3_ready_33 : decode cX3_ready 33 = .ok (.ireturn, 1) := by decide +kernel
theorem dX3_onLoops_0 : decode cX3_onLoops 0 = .ok (.iconst 0, 1) := by decide +kernel
theorem dX3_onLoops_1 : decode cX3_onLoops 1 = .ok (.istore_n 1, 1) := by decide +kernel
theorem dX3_onLoops_2 : decode cX3_onLoops 2 = .ok (.iconst 0, 1) := by decide +kernel
theorem dX3_onLoops_3 : decode cX3_onLoops 3 = .ok (.istore_n 2, 1) := by decide +kernel
theorem dX3_onLoops_4 : decode cX3_onLoops 4 = .ok (.iload_n 2, 1) := by decide +kernel
theorem dX3_onLoops_5 : decode cX3_onLoops 5 = .ok (.aload_n 0, 1) := by decide +kernel
theorem dX3_onLoops_6 : decode cX3_onLoops 6 = .ok (.getfield 36, 3) := by decide +kernel
theorem dX3_onLoops_9 : decode cX3_onLoops 9 = .ok (.if_icmp .ge 71, 3) := by decide +kernel
theorem dX3_onLoops_12 : decode cX3_onLoops 12 = .ok (.iconst 0, 1) := by decide +kernel
theorem dX3_onLoops_13 : decode cX3_onLoops 13 = .ok (.istore_n 3, 1) := by decide +kernel
theorem dX3_onLoops_14 : decode cX3_onLoops 14 = .ok (.iconst 0, 1) := by decide +kernel
theorem dX3_onLoops_15 : decode cX3_onLoops 15 = .ok (.istore 4, 2) := by decide +kernel
theorem dX3_onLoops_17 : decode cX3_onLoops 17 = .ok (.iload 4, 2) := by decide +kernel
theorem dX3_onLoops_19 : decode cX3_onLoops 19 = .ok (.aload_n 0, 1) := by decide +kernel
theorem dX3_onLoops_20 : decode cX3_onLoops 20 = .ok (.getfield 40, 3) := by decide +kernel
theorem dX3_onLoops_23 : decode cX3_onLoops 23 = .ok (.if_icmp .ge 36, 3) := by decide +kernel
theorem dX3_onLoops_26 : decode cX3_onLoops 26 = .ok (.iload_n 3, 1) := by decide +kernel
theorem dX3_onLoops_27 : decode cX3_onLoops 27 = .ok (.aload_n 0, 1) := by decide +kernel
theorem dX3_onLoops_28 : decode cX3_onLoops 28 = .ok (.getfield 21, 3) := by decide +kernel
theorem dX3_onLoops_31 : decode cX3_onLoops 31 = .ok (.iload 4, 2) := by decide +kernel
theorem dX3_onLoops_33 : decode cX3_onLoops 33 = .ok (.iaload, 1) := by decide +kernel
theorem dX3_onLoops_34 : decode cX3_onLoops 34 = .ok (.iload_n 2, 1) := by decide +kernel
theorem dX3_onLoops_35 : decode cX3_onLoops 35 = .ok (.if_icmp .ne 15, 3) := by decide +kernel
theorem dX3_onLoops_38 : decode cX3_onLoops 38 = .ok (.iconst 1, 1) := by decide +kernel
theorem dX3_onLoops_39 : decode cX3_onLoops 39 = .ok (.aload_n 0, 1) := by decide +kernel
theorem dX3_onLoops_40 : decode cX3_onLoops 40 = .ok (.getfield 24, 3) := by decide +kernel
theorem dX3_onLoops_43 : decode cX3_onLoops 43 = .ok (.iload 4, 2) := by decide +kernel
theorem dX3_onLoops_45 : decode cX3_onLoops 45 = .ok (.iaload, 1) := by decide +kernel
theorem dX3_onLoops_46 : decode cX3_onLoops 46 = .ok (.ishl, 1) := by decide +kernel
theorem dX3_onLoops_47 : decode cX3_onLoops 47 = .ok (.goto 4, 3) := by decide +kernel
theorem dX3_onLoops_50 : decode cX3_onLoops 50 = .ok (.iconst 0, 1) := by decide +kernel
theorem dX3_onLoops_51 : decode cX3_onLoops 51 = .ok (.ior, 1) := by decide +kernel
theorem dX3_onLoops_52 : decode cX3_onLoops 52 = .ok (.istore_n 3, 1) := by decide +kernel
theorem dX3_onLoops_53 : decode cX3_onLoops 53 = .ok (.iinc 4 1, 3) := by decide +kernel
theorem dX3_onLoops_56 : decode cX3_onLoops 56 = .ok (.goto (-39), 3) := by decide +kernel
theorem dX3_onLoops_59 : decode cX3_onLoops 59 = .ok (.iload_n 1, 1) := by decide +kernel
theorem dX3_onLoops_60 : decode cX3_onLoops 60 = .ok (.aload_n 0, 1) := by decide +kernel
theorem dX3_onLoops_61 : decode cX3_onLoops 61 = .ok (.iload_n 3, 1) := by decide +kernel
theorem dX3_onLoops_62 : decode cX3_onLoops 62 = .ok (.sipush 999, 3) := by decide +kernel
theorem dX3_onLoops_65 : decode cX3_onLoops 65 = .ok (.invokevirtual 115, 3) := by decide +kernel
theorem dX3_onLoops_68 : decode cX3_onLoops 68 = .ok (.iconst 1, 1) := by decide +kernel
theorem dX3_onLoops_69 : decode cX3_onLoops 69 = .ok (.iload_n 2, 1) := by decide +kernel
theorem dX3_onLoops_70 : decode cX3_onLoops 70 = .ok (.ishl, 1) := by decide +kernel
theorem dX3_onLoops_71 : decode cX3_onLoops 71 = .ok (.iand, 1) := by decide +kernel
theorem dX3_onLoops_72 : decode cX3_onLoops 72 = .ok (.ior, 1) := by decide +kernel
theorem dX3_onLoops_73 : decode cX3_onLoops 73 = .ok (.istore_n 1, 1) := by decide +kernel
theorem dX3_onLoops_74 : decode cX3_onLoops 74 = .ok (.iinc 2 1, 3) := by decide +kernel
theorem dX3_onLoops_77 : decode cX3_onLoops 77 = .ok (.goto (-73), 3) := by decide +kernel
theorem dX3_onLoops_80 : decode cX3_onLoops 80 = .ok (.iload_n 1, 1) := by decide +kernel
theorem dX3_onLoops_81 : decode cX3_onLoops 81 = .ok (.ireturn, 1) := by decide +kernel
theorem dX3_parts_0 : decode cX3_parts 0 = .ok (.iconst 0, 1) := by decide +kernel
theorem dX3_parts_1 : decode cX3_parts 1 = .ok (.istore_n 1, 1) := by decide +kernel
theorem dX3_parts_2 : decode cX3_parts 2 = .ok (.iconst 0, 1) := by decide +kernel
theorem dX3_parts_3 : decode cX3_parts 3 = .ok (.istore_n 2, 1) := by decide +kernel
theorem dX3_parts_4 : decode cX3_parts 4 = .ok (.iconst 0, 1) := by decide +kernel
theorem dX3_parts_5 : decode cX3_parts 5 = .ok (.istore_n 3, 1) := by decide +kernel
theorem dX3_parts_6 : decode cX3_parts 6 = .ok (.iload_n 3, 1) := by decide +kernel
theorem dX3_parts_7 : decode cX3_parts 7 = .ok (.aload_n 0, 1) := by decide +kernel
theorem dX3_parts_8 : decode cX3_parts 8 = .ok (.getfield 36, 3) := by decide +kernel
theorem dX3_parts_11 : decode cX3_parts 11 = .ok (.if_icmp .ge 28, 3) := by decide +kernel
theorem dX3_parts_14 : decode cX3_parts 14 = .ok (.iload_n 1, 1) := by decide +kernel
theorem dX3_parts_15 : decode cX3_parts 15 = .ok (.iload_n 3, 1) := by decide +kernel
theorem dX3_parts_16 : decode cX3_parts 16 = .ok (.ishr, 1) := by decide +kernel
theorem dX3_parts_17 : decode cX3_parts 17 = .ok (.iconst 1, 1) := by decide +kernel
theorem dX3_parts_18 : decode cX3_parts 18 = .ok (.iand, 1) := by decide +kernel
theorem dX3_parts_19 : decode cX3_parts 19 = .ok (.ifCond .ne 14, 3) := by decide +kernel
theorem dX3_parts_22 : decode cX3_parts 22 = .ok (.iinc 2 1, 3) := by decide +kernel
theorem dX3_parts_25 : decode cX3_parts 25 = .ok (.iload_n 1, 1) := by decide +kernel
theorem dX3_parts_26 : decode cX3_parts 26 = .ok (.aload_n 0, 1) := by decide +kernel
theorem dX3_parts_27 : decode cX3_parts 27 = .ok (.iload_n 3, 1) := by decide +kernel
theorem dX3_parts_28 : decode cX3_parts 28 = .ok (.invokevirtual 118, 3) := by decide +kernel
theorem dX3_parts_31 : decode cX3_parts 31 = .ok (.ior, 1) := by decide +kernel
theorem dX3_parts_32 : decode cX3_parts 32 = .ok (.istore_n 1, 1) := by decide +kernel
theorem dX3_parts_33 : decode cX3_parts 33 = .ok (.iinc 3 1, 3) := by decide +kernel
theorem dX3_parts_36 : decode cX3_parts 36 = .ok (.goto (-30), 3) := by decide +kernel
theorem dX3_parts_39 : decode cX3_parts 39 = .ok (.iload_n 2, 1) := by decide +kernel
theorem dX3_parts_40 : decode cX3_parts 40 = .ok (.ireturn, 1) := by decide +kernel
theorem dX3_partOf_0 : decode cX3_partOf 0 = .ok (.iconst 1, 1) := by decide +kernel
theorem dX3_partOf_1 : decode cX3_partOf 1 = .ok (.iload_n 1, 1) := by decide +kernel
theorem dX3_partOf_2 : decode cX3_partOf 2 = .ok (.ishl, 1) := by decide +kernel
theorem dX3_partOf_3 : decode cX3_partOf 3 = .ok (.istore_n 2, 1) := by decide +kernel
theorem dX3_partOf_4 : decode cX3_partOf 4 = .ok (.iconst 1, 1) := by decide +kernel
theorem dX3_partOf_5 : decode cX3_partOf 5 = .ok (.istore_n 3, 1) := by decide +kernel
theorem dX3_partOf_6 : decode cX3_partOf 6 = .ok (.iload_n 3, 1) := by decide +kernel
theorem dX3_partOf_7 : decode cX3_partOf 7 = .ok (.aload_n 0, 1) := by decide +kernel
theorem dX3_partOf_8 : decode cX3_partOf 8 = .ok (.getfield 36, 3) := by decide +kernel
theorem dX3_partOf_11 : decode cX3_partOf 11 = .ok (.if_icmp .ge 64, 3) := by decide +kernel
theorem dX3_partOf_14 : decode cX3_partOf 14 = .ok (.iconst 0, 1) := by decide +kernel
theorem dX3_partOf_15 : decode cX3_partOf 15 = .ok (.istore 4, 2) := by decide +kernel
theorem dX3_partOf_17 : decode cX3_partOf 17 = .ok (.iload 4, 2) := by decide +kernel
theorem dX3_partOf_19 : decode cX3_partOf 19 = .ok (.aload_n 0, 1) := by decide +kernel
theorem dX3_partOf_20 : decode cX3_partOf 20 = .ok (.getfield 40, 3) := by decide +kernel
theorem dX3_partOf_23 : decode cX3_partOf 23 = .ok (.if_icmp .ge 46, 3) := by decide +kernel
theorem dX3_partOf_26 : decode cX3_partOf 26 = .ok (.iconst 1, 1) := by decide +kernel
theorem dX3_partOf_27 : decode cX3_partOf 27 = .ok (.aload_n 0, 1) := by decide +kernel
theorem dX3_partOf_28 : decode cX3_partOf 28 = .ok (.getfield 21, 3) := by decide +kernel
theorem dX3_partOf_31 : decode cX3_partOf 31 = .ok (.iload 4, 2) := by decide +kernel
theorem dX3_partOf_33 : decode cX3_partOf 33 = .ok (.iaload, 1) := by decide +kernel
theorem dX3_partOf_34 : decode cX3_partOf 34 = .ok (.ishl, 1) := by decide +kernel
theorem dX3_partOf_35 : decode cX3_partOf 35 = .ok (.iconst 1, 1) := by decide +kernel
theorem dX3_partOf_36 : decode cX3_partOf 36 = .ok (.aload_n 0, 1) := by decide +kernel
theorem dX3_partOf_37 : decode cX3_partOf 37 = .ok (.getfield 24, 3) := by decide +kernel
theorem dX3_partOf_40 : decode cX3_partOf 40 = .ok (.iload 4, 2) := by decide +kernel
theorem dX3_partOf_42 : decode cX3_partOf 42 = .ok (.iaload, 1) := by decide +kernel
theorem dX3_partOf_43 : decode cX3_partOf 43 = .ok (.ishl, 1) := by decide +kernel
theorem dX3_partOf_44 : decode cX3_partOf 44 = .ok (.ior, 1) := by decide +kernel
theorem dX3_partOf_45 : decode cX3_partOf 45 = .ok (.istore 5, 2) := by decide +kernel
theorem dX3_partOf_47 : decode cX3_partOf 47 = .ok (.iload_n 2, 1) := by decide +kernel
theorem dX3_partOf_48 : decode cX3_partOf 48 = .ok (.iload_n 2, 1) := by decide +kernel
theorem dX3_partOf_49 : decode cX3_partOf 49 = .ok (.iload 5, 2) := by decide +kernel
theorem dX3_partOf_51 : decode cX3_partOf 51 = .ok (.iand, 1) := by decide +kernel
theorem dX3_partOf_52 : decode cX3_partOf 52 = .ok (.ifCond .eq 8, 3) := by decide +kernel
theorem dX3_partOf_55 : decode cX3_partOf 55 = .ok (.iload 5, 2) := by decide +kernel
theorem dX3_partOf_57 : decode cX3_partOf 57 = .ok (.goto 4, 3) := by decide +kernel
theorem dX3_partOf_60 : decode cX3_partOf 60 = .ok (.iconst 0, 1) := by decide +kernel
theorem dX3_partOf_61 : decode cX3_partOf 61 = .ok (.ior, 1) := by decide +kernel
theorem dX3_partOf_62 : decode cX3_partOf 62 = .ok (.istore_n 2, 1) := by decide +kernel
theorem dX3_partOf_63 : decode cX3_partOf 63 = .ok (.iinc 4 1, 3) := by decide +kernel
theorem dX3_partOf_66 : decode cX3_partOf 66 = .ok (.goto (-49), 3) := by decide +kernel
theorem dX3_partOf_69 : decode cX3_partOf 69 = .ok (.iinc 3 1, 3) := by decide +kernel
theorem dX3_partOf_72 : decode cX3_partOf 72 = .ok (.goto (-66), 3) := by decide +kernel
theorem dX3_partOf_75 : decode cX3_partOf 75 = .ok (.iload_n 2, 1) := by decide +kernel
theorem dX3_partOf_76 : decode cX3_partOf 76 = .ok (.ireturn, 1) := by decide +kernel
theorem dX3_closesDeadLoop_0 : decode cX3_closesDeadLoop 0 = .ok (.aload_n 0, 1) := by decide +kernel
theorem dX3_closesDeadLoop_1 : decode cX3_closesDeadLoop 1 = .ok (.iconst 1, 1) := by decide +kernel
theorem dX3_closesDeadLoop_2 : decode cX3_closesDeadLoop 2 = .ok (.iload_n 2, 1) := by decide +kernel
theorem dX3_closesDeadLoop_3 : decode cX3_closesDeadLoop 3 = .ok (.ishl, 1) := by decide +kernel
theorem dX3_closesDeadLoop_4 : decode cX3_closesDeadLoop 4 = .ok (.iconst 0, 1) := by decide +kernel
theorem dX3_closesDeadLoop_5 : decode cX3_closesDeadLoop 5 = .ok (.invokevirtual 115, 3) := by decide +kernel
theorem dX3_closesDeadLoop_8 : decode cX3_closesDeadLoop 8 = .ok (.iload_n 1, 1) := by decide +kernel
theorem dX3_closesDeadLoop_9 : decode cX3_closesDeadLoop 9 = .ok (.ishr, 1) := by decide +kernel
theorem dX3_closesDeadLoop_10 : decode cX3_closesDeadLoop 10 = .ok (.iconst 1, 1) := by decide +kernel
theorem dX3_closesDeadLoop_11 : decode cX3_closesDeadLoop 11 = .ok (.iand, 1) := by decide +kernel
theorem dX3_closesDeadLoop_12 : decode cX3_closesDeadLoop 12 = .ok (.ifCond .eq 7, 3) := by decide +kernel
theorem dX3_closesDeadLoop_15 : decode cX3_closesDeadLoop 15 = .ok (.iconst 1, 1) := by decide +kernel
theorem dX3_closesDeadLoop_16 : decode cX3_closesDeadLoop 16 = .ok (.goto 4, 3) := by decide +kernel
theorem dX3_closesDeadLoop_19 : decode cX3_closesDeadLoop 19 = .ok (.iconst 0, 1) := by decide +kernel
theorem dX3_closesDeadLoop_20 : decode cX3_closesDeadLoop 20 = .ok (.ireturn, 1) := by decide +kernel
theorem dX3_reached_0 : decode cX3_reached 0 = .ok (.iload_n 1, 1) := by decide +kernel
theorem dX3_reached_1 : decode cX3_reached 1 = .ok (.istore_n 3, 1) := by decide +kernel
theorem dX3_reached_2 : decode cX3_reached 2 = .ok (.iconst 1, 1) := by decide +kernel
theorem dX3_reached_3 : decode cX3_reached 3 = .ok (.istore 4, 2) := by decide +kernel
theorem dX3_reached_5 : decode cX3_reached 5 = .ok (.iload 4, 2) := by decide +kernel
theorem dX3_reached_7 : decode cX3_reached 7 = .ok (.aload_n 0, 1) := by decide +kernel
theorem dX3_reached_8 : decode cX3_reached 8 = .ok (.getfield 36, 3) := by decide +kernel
theorem dX3_reached_11 : decode cX3_reached 11 = .ok (.if_icmp .ge 64, 3) := by decide +kernel
theorem dX3_reached_14 : decode cX3_reached 14 = .ok (.iconst 0, 1) := by decide +kernel
theorem dX3_reached_15 : decode cX3_reached 15 = .ok (.istore 5, 2) := by decide +kernel
theorem dX3_reached_17 : decode cX3_reached 17 = .ok (.iload 5, 2) := by decide +kernel
theorem dX3_reached_19 : decode cX3_reached 19 = .ok (.aload_n 0, 1) := by decide +kernel
theorem dX3_reached_20 : decode cX3_reached 20 = .ok (.getfield 40, 3) := by decide +kernel
theorem dX3_reached_23 : decode cX3_reached 23 = .ok (.if_icmp .ge 46, 3) := by decide +kernel
theorem dX3_reached_26 : decode cX3_reached 26 = .ok (.aload_n 0, 1) := by decide +kernel
theorem dX3_reached_27 : decode cX3_reached 27 = .ok (.getfield 33, 3) := by decide +kernel
theorem dX3_reached_30 : decode cX3_reached 30 = .ok (.iload 5, 2) := by decide +kernel
theorem dX3_reached_32 : decode cX3_reached 32 = .ok (.iaload, 1) := by decide +kernel
theorem dX3_reached_33 : decode cX3_reached 33 = .ok (.iload_n 2, 1) := by decide +kernel
theorem dX3_reached_34 : decode cX3_reached 34 = .ok (.if_icmp .gt 29, 3) := by decide +kernel
theorem dX3_reached_37 : decode cX3_reached 37 = .ok (.iload_n 3, 1) := by decide +kernel
theorem dX3_reached_38 : decode cX3_reached 38 = .ok (.aload_n 0, 1) := by decide +kernel
theorem dX3_reached_39 : decode cX3_reached 39 = .ok (.getfield 21, 3) := by decide +kernel
theorem dX3_reached_42 : decode cX3_reached 42 = .ok (.iload 5, 2) := by decide +kernel
theorem dX3_reached_44 : decode cX3_reached 44 = .ok (.iaload, 1) := by decide +kernel
theorem dX3_reached_45 : decode cX3_reached 45 = .ok (.ishr, 1) := by decide +kernel
theorem dX3_reached_46 : decode cX3_reached 46 = .ok (.iconst 1, 1) := by decide +kernel
theorem dX3_reached_47 : decode cX3_reached 47 = .ok (.iand, 1) := by decide +kernel
theorem dX3_reached_48 : decode cX3_reached 48 = .ok (.ifCond .eq 15, 3) := by decide +kernel
theorem dX3_reached_51 : decode cX3_reached 51 = .ok (.iload_n 3, 1) := by decide +kernel
theorem dX3_reached_52 : decode cX3_reached 52 = .ok (.iconst 1, 1) := by decide +kernel
theorem dX3_reached_53 : decode cX3_reached 53 = .ok (.aload_n 0, 1) := by decide +kernel
theorem dX3_reached_54 : decode cX3_reached 54 = .ok (.getfield 24, 3) := by decide +kernel
theorem dX3_reached_57 : decode cX3_reached 57 = .ok (.iload 5, 2) := by decide +kernel
theorem dX3_reached_59 : decode cX3_reached 59 = .ok (.iaload, 1) := by decide +kernel
theorem dX3_reached_60 : decode cX3_reached 60 = .ok (.ishl, 1) := by decide +kernel
theorem dX3_reached_61 : decode cX3_reached 61 = .ok (.ior, 1) := by decide +kernel
theorem dX3_reached_62 : decode cX3_reached 62 = .ok (.istore_n 3, 1) := by decide +kernel
theorem dX3_reached_63 : decode cX3_reached 63 = .ok (.iinc 5 1, 3) := by decide +kernel
theorem dX3_reached_66 : decode cX3_reached 66 = .ok (.goto (-49), 3) := by decide +kernel
theorem dX3_reached_69 : decode cX3_reached 69 = .ok (.iinc 4 1, 3) := by decide +kernel
theorem dX3_reached_72 : decode cX3_reached 72 = .ok (.goto (-67), 3) := by decide +kernel
theorem dX3_reached_75 : decode cX3_reached 75 = .ok (.iload_n 3, 1) := by decide +kernel
theorem dX3_reached_76 : decode cX3_reached 76 = .ok (.ireturn, 1) := by decide +kernel
theorem dX4_init_0 : decode cX4_init 0 = .ok (.aload_n 0, 1) := by decide +kernel
theorem dX4_init_1 : decode cX4_init 1 = .ok (.invokespecial 3, 3) := by decide +kernel
theorem dX4_init_4 : decode cX4_init 4 = .ok (.aload_n 0, 1) := by decide +kernel
theorem dX4_init_5 : decode cX4_init 5 = .ok (.bipush 8, 2) := by decide +kernel
theorem dX4_init_7 : decode cX4_init 7 = .ok (.newarray .int, 2) := by decide +kernel
theorem dX4_init_9 : decode cX4_init 9 = .ok (.putfield 9, 3) := by decide +kernel
theorem dX4_init_12 : decode cX4_init 12 = .ok (.return_, 1) := by decide +kernel
theorem dX4_agreeIn_0 : decode cX4_agreeIn 0 = .ok (.aload_n 0, 1) := by decide +kernel
theorem dX4_agreeIn_1 : decode cX4_agreeIn 1 = .ok (.aload_n 1, 1) := by decide +kernel
theorem dX4_agreeIn_2 : decode cX4_agreeIn 2 = .ok (.getfield 15, 3) := by decide +kernel
theorem dX4_agreeIn_5 : decode cX4_agreeIn 5 = .ok (.putfield 21, 3) := by decide +kernel
theorem dX4_agreeIn_8 : decode cX4_agreeIn 8 = .ok (.iconst 0, 1) := by decide +kernel
theorem dX4_agreeIn_9 : decode cX4_agreeIn 9 = .ok (.istore_n 2, 1) := by decide +kernel
theorem dX4_agreeIn_10 : decode cX4_agreeIn 10 = .ok (.iload_n 2, 1) := by decide +kernel
theorem dX4_agreeIn_11 : decode cX4_agreeIn 11 = .ok (.aload_n 0, 1) := by decide +kernel
theorem dX4_agreeIn_12 : decode cX4_agreeIn 12 = .ok (.getfield 21, 3) := by decide +kernel
theorem dX4_agreeIn_15 : decode cX4_agreeIn 15 = .ok (.if_icmp .ge 16, 3) := by decide +kernel
theorem dX4_agreeIn_18 : decode cX4_agreeIn 18 = .ok (.aload_n 0, 1) := by decide +kernel
theorem dX4_agreeIn_19 : decode cX4_agreeIn 19 = .ok (.getfield 9, 3) := by decide +kernel
theorem dX4_agreeIn_22 : decode cX4_agreeIn 22 = .ok (.iload_n 2, 1) := by decide +kernel
theorem dX4_agreeIn_23 : decode cX4_agreeIn 23 = .ok (.iconst 0, 1) := by decide +kernel
theorem dX4_agreeIn_24 : decode cX4_agreeIn 24 = .ok (.iastore, 1) := by decide +kernel
theorem dX4_agreeIn_25 : decode cX4_agreeIn 25 = .ok (.iinc 2 1, 3) := by decide +kernel
theorem dX4_agreeIn_28 : decode cX4_agreeIn 28 = .ok (.goto (-18), 3) := by decide +kernel
theorem dX4_agreeIn_31 : decode cX4_agreeIn 31 = .ok (.iconst 0, 1) := by decide +kernel
theorem dX4_agreeIn_32 : decode cX4_agreeIn 32 = .ok (.istore_n 2, 1) := by decide +kernel
theorem dX4_agreeIn_33 : decode cX4_agreeIn 33 = .ok (.iload_n 2, 1) := by decide +kernel
theorem dX4_agreeIn_34 : decode cX4_agreeIn 34 = .ok (.aload_n 0, 1) := by decide +kernel
theorem dX4_agreeIn_35 : decode cX4_agreeIn 35 = .ok (.getfield 21, 3) := by decide +kernel
theorem dX4_agreeIn_38 : decode cX4_agreeIn 38 = .ok (.if_icmp .ge 29, 3) := by decide +kernel
theorem dX4_agreeIn_41 : decode cX4_agreeIn 41 = .ok (.aload_n 0, 1) := by decide +kernel
theorem dX4_agreeIn_42 : decode cX4_agreeIn 42 = .ok (.getfield 9, 3) := by decide +kernel
theorem dX4_agreeIn_45 : decode cX4_agreeIn 45 = .ok (.iload_n 2, 1) := by decide +kernel
theorem dX4_agreeIn_46 : decode cX4_agreeIn 46 = .ok (.iaload, 1) := by decide +kernel
theorem dX4_agreeIn_47 : decode cX4_agreeIn 47 = .ok (.ifCond .ne 14, 3) := by decide +kernel
theorem dX4_agreeIn_50 : decode cX4_agreeIn 50 = .ok (.aload_n 0, 1) := by decide +kernel
theorem dX4_agreeIn_51 : decode cX4_agreeIn 51 = .ok (.aload_n 1, 1) := by decide +kernel
theorem dX4_agreeIn_52 : decode cX4_agreeIn 52 = .ok (.iload_n 2, 1) := by decide +kernel
theorem dX4_agreeIn_53 : decode cX4_agreeIn 53 = .ok (.invokevirtual 22, 3) := by decide +kernel
theorem dX4_agreeIn_56 : decode cX4_agreeIn 56 = .ok (.ifCond .ne 5, 3) := by decide +kernel
theorem dX4_agreeIn_59 : decode cX4_agreeIn 59 = .ok (.iconst 0, 1) := by decide +kernel
theorem dX4_agreeIn_60 : decode cX4_agreeIn 60 = .ok (.ireturn, 1) := by decide +kernel
theorem dX4_agreeIn_61 : decode cX4_agreeIn 61 = .ok (.iinc 2 1, 3) := by decide +kernel
theorem dX4_agreeIn_64 : decode cX4_agreeIn 64 = .ok (.goto (-31), 3) := by decide +kernel
theorem dX4_agreeIn_67 : decode cX4_agreeIn 67 = .ok (.iconst 0, 1) := by decide +kernel
theorem dX4_agreeIn_68 : decode cX4_agreeIn 68 = .ok (.istore_n 2, 1) := by decide +kernel
theorem dX4_agreeIn_69 : decode cX4_agreeIn 69 = .ok (.iload_n 2, 1) := by decide +kernel
theorem dX4_agreeIn_70 : decode cX4_agreeIn 70 = .ok (.aload_n 1, 1) := by decide +kernel
theorem dX4_agreeIn_71 : decode cX4_agreeIn 71 = .ok (.getfield 26, 3) := by decide +kernel
theorem dX4_agreeIn_74 : decode cX4_agreeIn 74 = .ok (.if_icmp .ge 50, 3) := by decide +kernel
theorem dX4_agreeIn_77 : decode cX4_agreeIn 77 = .ok (.aload_n 0, 1) := by decide +kernel
theorem dX4_agreeIn_78 : decode cX4_agreeIn 78 = .ok (.getfield 9, 3) := by decide +kernel
theorem dX4_agreeIn_81 : decode cX4_agreeIn 81 = .ok (.aload_n 1, 1) := by decide +kernel
theorem dX4_agreeIn_82 : decode cX4_agreeIn 82 = .ok (.getfield 29, 3) := by decide +kernel
theorem dX4_agreeIn_85 : decode cX4_agreeIn 85 = .ok (.iload_n 2, 1) := by decide +kernel
theorem dX4_agreeIn_86 : decode cX4_agreeIn 86 = .ok (.iaload, 1) := by decide +kernel
theorem dX4_agreeIn_87 : decode cX4_agreeIn 87 = .ok (.iaload, 1) := by decide +kernel
theorem dX4_agreeIn_88 : decode cX4_agreeIn 88 = .ok (.aload_n 1, 1) := by decide +kernel
theorem dX4_agreeIn_89 : decode cX4_agreeIn 89 = .ok (.getfield 32, 3) := by decide +kernel
theorem dX4_agreeIn_92 : decode cX4_agreeIn 92 = .ok (.iload_n 2, 1) := by decide +kernel
theorem dX4_agreeIn_93 : decode cX4_agreeIn 93 = .ok (.iaload, 1) := by decide +kernel
theorem dX4_agreeIn_94 : decode cX4_agreeIn 94 = .ok (.imul, 1) := by decide +kernel
theorem dX4_agreeIn_95 : decode cX4_agreeIn 95 = .ok (.aload_n 0, 1) := by decide +kernel
theorem dX4_agreeIn_96 : decode cX4_agreeIn 96 = .ok (.getfield 9, 3) := by decide +kernel
theorem dX4_agreeIn_99 : decode cX4_agreeIn 99 = .ok (.aload_n 1, 1) := by decide +kernel
theorem dX4_agreeIn_100 : decode cX4_agreeIn 100 = .ok (.getfield 35, 3) := by decide +kernel
theorem dX4_agreeIn_103 : decode cX4_agreeIn 103 = .ok (.iload_n 2, 1) := by decide +kernel
theorem dX4_agreeIn_104 : decode cX4_agreeIn 104 = .ok (.iaload, 1) := by decide +kernel
theorem dX4_agreeIn_105 : decode cX4_agreeIn 105 = .ok (.iaload, 1) := by decide +kernel
theorem dX4_agreeIn_106 : decode cX4_agreeIn 106 = .ok (.aload_n 1, 1) := by decide +kernel
theorem dX4_agreeIn_107 : decode cX4_agreeIn 107 = .ok (.getfield 38, 3) := by decide +kernel
theorem dX4_agreeIn_110 : decode cX4_agreeIn 110 = .ok (.iload_n 2, 1) := by decide +kernel
theorem dX4_agreeIn_111 : decode cX4_agreeIn 111 = .ok (.iaload, 1) := by decide +kernel
theorem dX4_agreeIn_112 : decode cX4_agreeIn 112 = .ok (.imul, 1) := by decide +kernel
theorem dX4_agreeIn_113 : decode cX4_agreeIn 113 = .ok (.if_icmp .eq 5, 3) := by decide +kernel
theorem dX4_agreeIn_116 : decode cX4_agreeIn 116 = .ok (.iconst 0, 1) := by decide +kernel
theorem dX4_agreeIn_117 : decode cX4_agreeIn 117 = .ok (.ireturn, 1) := by decide +kernel
theorem dX4_agreeIn_118 : decode cX4_agreeIn 118 = .ok (.iinc 2 1, 3) := by decide +kernel
theorem dX4_agreeIn_121 : decode cX4_agreeIn 121 = .ok (.goto (-52), 3) := by decide +kernel
theorem dX4_agreeIn_124 : decode cX4_agreeIn 124 = .ok (.iconst 1, 1) := by decide +kernel
theorem dX4_agreeIn_125 : decode cX4_agreeIn 125 = .ok (.ireturn, 1) := by decide +kernel
theorem dX4_total_0 : decode cX4_total 0 = .ok (.iconst 0, 1) := by decide +kernel
theorem dX4_total_1 : decode cX4_total 1 = .ok (.istore_n 1, 1) := by decide +kernel
theorem dX4_total_2 : decode cX4_total 2 = .ok (.iconst 0, 1) := by decide +kernel
theorem dX4_total_3 : decode cX4_total 3 = .ok (.istore_n 2, 1) := by decide +kernel
theorem dX4_total_4 : decode cX4_total 4 = .ok (.iload_n 2, 1) := by decide +kernel
theorem dX4_total_5 : decode cX4_total 5 = .ok (.aload_n 0, 1) := by decide +kernel
theorem dX4_total_6 : decode cX4_total 6 = .ok (.getfield 21, 3) := by decide +kernel
theorem dX4_total_9 : decode cX4_total 9 = .ok (.if_icmp .ge 18, 3) := by decide +kernel
theorem dX4_total_12 : decode cX4_total 12 = .ok (.iload_n 1, 1) := by decide +kernel
theorem dX4_total_13 : decode cX4_total 13 = .ok (.aload_n 0, 1) := by decide +kernel
theorem dX4_total_14 : decode cX4_total 14 = .ok (.getfield 9, 3) := by decide +kernel
theorem dX4_total_17 : decode cX4_total 17 = .ok (.iload_n 2, 1) := by decide +kernel
theorem dX4_total_18 : decode cX4_total 18 = .ok (.iaload, 1) := by decide +kernel
theorem dX4_total_19 : decode cX4_total 19 = .ok (.iadd, 1) := by decide +kernel
theorem dX4_total_20 : decode cX4_total 20 = .ok (.istore_n 1, 1) := by decide +kernel
theorem dX4_total_21 : decode cX4_total 21 = .ok (.iinc 2 1, 3) := by decide +kernel
theorem dX4_total_24 : decode cX4_total 24 = .ok (.goto (-20), 3) := by decide +kernel
theorem dX4_total_27 : decode cX4_total 27 = .ok (.iload_n 1, 1) := by decide +kernel
theorem dX4_total_28 : decode cX4_total 28 = .ok (.ireturn, 1) := by decide +kernel
theorem dX4_findsPart_0 : decode cX4_findsPart 0 = .ok (.aload_n 0, 1) := by decide +kernel
theorem dX4_findsPart_1 : decode cX4_findsPart 1 = .ok (.getfield 9, 3) := by decide +kernel
theorem dX4_findsPart_4 : decode cX4_findsPart 4 = .ok (.iload_n 2, 1) := by decide +kernel
theorem dX4_findsPart_5 : decode cX4_findsPart 5 = .ok (.iconst 1, 1) := by decide +kernel
theorem dX4_findsPart_6 : decode cX4_findsPart 6 = .ok (.iastore, 1) := by decide +kernel
theorem dX4_findsPart_7 : decode cX4_findsPart 7 = .ok (.iconst 1, 1) := by decide +kernel
theorem dX4_findsPart_8 : decode cX4_findsPart 8 = .ok (.iload_n 2, 1) := by decide +kernel
theorem dX4_findsPart_9 : decode cX4_findsPart 9 = .ok (.ishl, 1) := by decide +kernel
theorem dX4_findsPart_10 : decode cX4_findsPart 10 = .ok (.istore_n 3, 1) := by decide +kernel
theorem dX4_findsPart_11 : decode cX4_findsPart 11 = .ok (.iconst 1, 1) := by decide +kernel
theorem dX4_findsPart_12 : decode cX4_findsPart 12 = .ok (.istore 4, 2) := by decide +kernel
theorem dX4_findsPart_14 : decode cX4_findsPart 14 = .ok (.iload 4, 2) := by decide +kernel
theorem dX4_findsPart_16 : decode cX4_findsPart 16 = .ok (.aload_n 0, 1) := by decide +kernel
theorem dX4_findsPart_17 : decode cX4_findsPart 17 = .ok (.getfield 21, 3) := by decide +kernel
theorem dX4_findsPart_20 : decode cX4_findsPart 20 = .ok (.if_icmp .ge 191, 3) := by decide +kernel
theorem dX4_findsPart_23 : decode cX4_findsPart 23 = .ok (.iconst 0, 1) := by decide +kernel
theorem dX4_findsPart_24 : decode cX4_findsPart 24 = .ok (.istore 5, 2) := by decide +kernel
theorem dX4_findsPart_26 : decode cX4_findsPart 26 = .ok (.iload 5, 2) := by decide +kernel
theorem dX4_findsPart_28 : decode cX4_findsPart 28 = .ok (.aload_n 1, 1) := by decide +kernel
theorem dX4_findsPart_29 : decode cX4_findsPart 29 = .ok (.getfield 26, 3) := by decide +kernel
theorem dX4_findsPart_32 : decode cX4_findsPart 32 = .ok (.if_icmp .ge 173, 3) := by decide +kernel
theorem dX4_findsPart_35 : decode cX4_findsPart 35 = .ok (.aload_n 1, 1) := by decide +kernel
theorem dX4_findsPart_36 : decode cX4_findsPart 36 = .ok (.getfield 29, 3) := by decide +kernel
theorem dX4_findsPart_39 : decode cX4_findsPart 39 = .ok (.iload 5, 2) := by decide +kernel
theorem dX4_findsPart_41 : decode cX4_findsPart 41 = .ok (.iaload, 1) := by decide +kernel
theorem dX4_findsPart_42 : decode cX4_findsPart 42 = .ok (.istore 6, 2) := by decide +kernel
theorem dX4_findsPart_44 : decode cX4_findsPart 44 = .ok (.aload_n 1, 1) := by decide +kernel
theorem dX4_findsPart_45 : decode cX4_findsPart 45 = .ok (.getfield 35, 3) := by decide +kernel
theorem dX4_findsPart_48 : decode cX4_findsPart 48 = .ok (.iload 5, 2) := by decide +kernel
theorem dX4_findsPart_50 : decode cX4_findsPart 50 = .ok (.iaload, 1) := by decide +kernel
theorem dX4_findsPart_51 : decode cX4_findsPart 51 = .ok (.istore 7, 2) := by decide +kernel
theorem dX4_findsPart_53 : decode cX4_findsPart 53 = .ok (.iload_n 3, 1) := by decide +kernel
theorem dX4_findsPart_54 : decode cX4_findsPart 54 = .ok (.iload 6, 2) := by decide +kernel
theorem dX4_findsPart_56 : decode cX4_findsPart 56 = .ok (.ishr, 1) := by decide +kernel
theorem dX4_findsPart_57 : decode cX4_findsPart 57 = .ok (.iconst 1, 1) := by decide +kernel
theorem dX4_findsPart_58 : decode cX4_findsPart 58 = .ok (.iand, 1) := by decide +kernel
theorem dX4_findsPart_59 : decode cX4_findsPart 59 = .ok (.ifCond .eq 7, 3) := by decide +kernel
theorem dX4_findsPart_62 : decode cX4_findsPart 62 = .ok (.iconst 1, 1) := by decide +kernel
theorem dX4_findsPart_63 : decode cX4_findsPart 63 = .ok (.goto 4, 3) := by decide +kernel
theorem dX4_findsPart_66 : decode cX4_findsPart 66 = .ok (.iconst 0, 1) := by decide +kernel
theorem dX4_findsPart_67 : decode cX4_findsPart 67 = .ok (.istore 8, 2) := by decide +kernel
theorem dX4_findsPart_69 : decode cX4_findsPart 69 = .ok (.iload_n 3, 1) := by decide +kernel
theorem dX4_findsPart_70 : decode cX4_findsPart 70 = .ok (.iload 7, 2) := by decide +kernel
theorem dX4_findsPart_72 : decode cX4_findsPart 72 = .ok (.ishr, 1) := by decide +kernel
theorem dX4_findsPart_73 : decode cX4_findsPart 73 = .ok (.iconst 1, 1) := by decide +kernel
theorem dX4_findsPart_74 : decode cX4_findsPart 74 = .ok (.iand, 1) := by decide +kernel
theorem dX4_findsPart_75 : decode cX4_findsPart 75 = .ok (.ifCond .eq 7, 3) := by decide +kernel
theorem dX4_findsPart_78 : decode cX4_findsPart 78 = .ok (.iconst 1, 1) := by decide +kernel
theorem dX4_findsPart_79 : decode cX4_findsPart 79 = .ok (.goto 4, 3) := by decide +kernel
theorem dX4_findsPart_82 : decode cX4_findsPart 82 = .ok (.iconst 0, 1) := by decide +kernel
theorem dX4_findsPart_83 : decode cX4_findsPart 83 = .ok (.istore 9, 2) := by decide +kernel
theorem dX4_findsPart_85 : decode cX4_findsPart 85 = .ok (.iload 8, 2) := by decide +kernel
theorem dX4_findsPart_87 : decode cX4_findsPart 87 = .ok (.ifCond .eq 42, 3) := by decide +kernel
theorem dX4_findsPart_90 : decode cX4_findsPart 90 = .ok (.iload 9, 2) := by decide +kernel
theorem dX4_findsPart_92 : decode cX4_findsPart 92 = .ok (.ifCond .ne 37, 3) := by decide +kernel
theorem dX4_findsPart_95 : decode cX4_findsPart 95 = .ok (.aload_n 0, 1) := by decide +kernel
theorem dX4_findsPart_96 : decode cX4_findsPart 96 = .ok (.iload_n 3, 1) := by decide +kernel
theorem dX4_findsPart_97 : decode cX4_findsPart 97 = .ok (.iload 7, 2) := by decide +kernel
theorem dX4_findsPart_99 : decode cX4_findsPart 99 = .ok (.aload_n 0, 1) := by decide +kernel
theorem dX4_findsPart_100 : decode cX4_findsPart 100 = .ok (.getfield 9, 3) := by decide +kernel
theorem dX4_findsPart_103 : decode cX4_findsPart 103 = .ok (.iload 6, 2) := by decide +kernel
theorem dX4_findsPart_105 : decode cX4_findsPart 105 = .ok (.iaload, 1) := by decide +kernel
theorem dX4_findsPart_106 : decode cX4_findsPart 106 = .ok (.aload_n 1, 1) := by decide +kernel
theorem dX4_findsPart_107 : decode cX4_findsPart 107 = .ok (.getfield 32, 3) := by decide +kernel
theorem dX4_findsPart_110 : decode cX4_findsPart 110 = .ok (.iload 5, 2) := by decide +kernel
theorem dX4_findsPart_112 : decode cX4_findsPart 112 = .ok (.iaload, 1) := by decide +kernel
theorem dX4_findsPart_113 : decode cX4_findsPart 113 = .ok (.imul, 1) := by decide +kernel
theorem dX4_findsPart_114 : decode cX4_findsPart 114 = .ok (.aload_n 1, 1) := by decide +kernel
theorem dX4_findsPart_115 : decode cX4_findsPart 115 = .ok (.getfield 38, 3) := by decide +kernel
theorem dX4_findsPart_118 : decode cX4_findsPart 118 = .ok (.iload 5, 2) := by decide +kernel
theorem dX4_findsPart_120 : decode cX4_findsPart 120 = .ok (.iaload, 1) := by decide +kernel
theorem dX4_findsPart_121 : decode cX4_findsPart 121 = .ok (.invokevirtual 41, 3) := by decide +kernel
theorem dX4_findsPart_124 : decode cX4_findsPart 124 = .ok (.ifCond .ne 5, 3) := by decide +kernel
theorem dX4_findsPart_127 : decode cX4_findsPart 127 = .ok (.iconst 0, 1) := by decide +kernel
theorem dX4_findsPart_128 : decode cX4_findsPart 128 = .ok (.ireturn, 1) := by decide +kernel
theorem dX4_findsPart_129 : decode cX4_findsPart 129 = .ok (.iload 9, 2) := by decide +kernel
theorem dX4_findsPart_131 : decode cX4_findsPart 131 = .ok (.ifCond .eq 42, 3) := by decide +kernel
theorem dX4_findsPart_134 : decode cX4_findsPart 134 = .ok (.iload 8, 2) := by decide +kernel
theorem dX4_findsPart_136 : decode cX4_findsPart 136 = .ok (.ifCond .ne 37, 3) := by decide +kernel
theorem dX4_findsPart_139 : decode cX4_findsPart 139 = .ok (.aload_n 0, 1) := by decide +kernel
theorem dX4_findsPart_140 : decode cX4_findsPart 140 = .ok (.iload_n 3, 1) := by decide +kernel
theorem dX4_findsPart_141 : decode cX4_findsPart 141 = .ok (.iload 6, 2) := by decide +kernel
theorem dX4_findsPart_143 : decode cX4_findsPart 143 = .ok (.aload_n 0, 1) := by decide +kernel
theorem dX4_findsPart_144 : decode cX4_findsPart 144 = .ok (.getfield 9, 3) := by decide +kernel
theorem dX4_findsPart_147 : decode cX4_findsPart 147 = .ok (.iload 7, 2) := by decide +kernel
theorem dX4_findsPart_149 : decode cX4_findsPart 149 = .ok (.iaload, 1) := by decide +kernel
theorem dX4_findsPart_150 : decode cX4_findsPart 150 = .ok (.aload_n 1, 1) := by decide +kernel
theorem dX4_findsPart_151 : decode cX4_findsPart 151 = .ok (.getfield 38, 3) := by decide +kernel
theorem dX4_findsPart_154 : decode cX4_findsPart 154 = .ok (.iload 5, 2) := by decide +kernel
theorem dX4_findsPart_156 : decode cX4_findsPart 156 = .ok (.iaload, 1) := by decide +kernel
theorem dX4_findsPart_157 : decode cX4_findsPart 157 = .ok (.imul, 1) := by decide +kernel
theorem dX4_findsPart_158 : decode cX4_findsPart 158 = .ok (.aload_n 1, 1) := by decide +kernel
theorem dX4_findsPart_159 : decode cX4_findsPart 159 = .ok (.getfield 32, 3) := by decide +kernel
theorem dX4_findsPart_162 : decode cX4_findsPart 162 = .ok (.iload 5, 2) := by decide +kernel
theorem dX4_findsPart_164 : decode cX4_findsPart 164 = .ok (.iaload, 1) := by decide +kernel
theorem dX4_findsPart_165 : decode cX4_findsPart 165 = .ok (.invokevirtual 41, 3) := by decide +kernel
theorem dX4_findsPart_168 : decode cX4_findsPart 168 = .ok (.ifCond .ne 5, 3) := by decide +kernel
theorem dX4_findsPart_171 : decode cX4_findsPart 171 = .ok (.iconst 0, 1) := by decide +kernel
theorem dX4_findsPart_172 : decode cX4_findsPart 172 = .ok (.ireturn, 1) := by decide +kernel
theorem dX4_findsPart_173 : decode cX4_findsPart 173 = .ok (.iload_n 3, 1) := by decide +kernel
theorem dX4_findsPart_174 : decode cX4_findsPart 174 = .ok (.iload 8, 2) := by decide +kernel
theorem dX4_findsPart_176 : decode cX4_findsPart 176 = .ok (.ifCond .ne 8, 3) := by decide +kernel
theorem dX4_findsPart_179 : decode cX4_findsPart 179 = .ok (.iload 9, 2) := by decide +kernel
theorem dX4_findsPart_181 : decode cX4_findsPart 181 = .ok (.ifCond .eq 15, 3) := by decide +kernel
theorem dX4_findsPart_184 : decode cX4_findsPart 184 = .ok (.iconst 1, 1) := by decide +kernel
theorem dX4_findsPart_185 : decode cX4_findsPart 185 = .ok (.iload 6, 2) := by decide +kernel
theorem dX4_findsPart_187 : decode cX4_findsPart 187 = .ok (.ishl, 1) := by decide +kernel
theorem dX4_findsPart_188 : decode cX4_findsPart 188 = .ok (.iconst 1, 1) := by decide +kernel
theorem dX4_findsPart_189 : decode cX4_findsPart 189 = .ok (.iload 7, 2) := by decide +kernel
theorem dX4_findsPart_191 : decode cX4_findsPart 191 = .ok (.ishl, 1) := by decide +kernel
theorem dX4_findsPart_192 : decode cX4_findsPart 192 = .ok (.ior, 1) := by decide +kernel
theorem dX4_findsPart_193 : decode cX4_findsPart 193 = .ok (.goto 4, 3) := by decide +kernel
theorem dX4_findsPart_196 : decode cX4_findsPart 196 = .ok (.iconst 0, 1) := by decide +kernel
theorem dX4_findsPart_197 : decode cX4_findsPart 197 = .ok (.ior, 1) := by decide +kernel
theorem dX4_findsPart_198 : decode cX4_findsPart 198 = .ok (.istore_n 3, 1) := by decide +kernel
theorem dX4_findsPart_199 : decode cX4_findsPart 199 = .ok (.iinc 5 1, 3) := by decide +kernel
theorem dX4_findsPart_202 : decode cX4_findsPart 202 = .ok (.goto (-176), 3) := by decide +kernel
theorem dX4_findsPart_205 : decode cX4_findsPart 205 = .ok (.iinc 4 1, 3) := by decide +kernel
theorem dX4_findsPart_208 : decode cX4_findsPart 208 = .ok (.goto (-194), 3) := by decide +kernel
theorem dX4_findsPart_211 : decode cX4_findsPart 211 = .ok (.iconst 1, 1) := by decide +kernel
theorem dX4_findsPart_212 : decode cX4_findsPart 212 = .ok (.ireturn, 1) := by decide +kernel
theorem dX4_joins_0 : decode cX4_joins 0 = .ok (.iload 4, 2) := by decide +kernel
theorem dX4_joins_2 : decode cX4_joins 2 = .ok (.iconst 1, 1) := by decide +kernel
theorem dX4_joins_3 : decode cX4_joins 3 = .ok (.if_icmp .ge 5, 3) := by decide +kernel
theorem dX4_joins_6 : decode cX4_joins 6 = .ok (.iconst 0, 1) := by decide +kernel
theorem dX4_joins_7 : decode cX4_joins 7 = .ok (.ireturn, 1) := by decide +kernel
theorem dX4_joins_8 : decode cX4_joins 8 = .ok (.iconst 1, 1) := by decide +kernel
theorem dX4_joins_9 : decode cX4_joins 9 = .ok (.istore 5, 2) := by decide +kernel
theorem dX4_joins_11 : decode cX4_joins 11 = .ok (.iload 5, 2) := by decide +kernel
theorem dX4_joins_13 : decode cX4_joins 13 = .ok (.iload 4, 2) := by decide +kernel
theorem dX4_joins_15 : decode cX4_joins 15 = .ok (.if_icmp .ge 19, 3) := by decide +kernel
theorem dX4_joins_18 : decode cX4_joins 18 = .ok (.iload_n 3, 1) := by decide +kernel
theorem dX4_joins_19 : decode cX4_joins 19 = .ok (.iload 5, 2) := by decide +kernel
theorem dX4_joins_21 : decode cX4_joins 21 = .ok (.imul, 1) := by decide +kernel
theorem dX4_joins_22 : decode cX4_joins 22 = .ok (.iload 4, 2) := by decide +kernel
theorem dX4_joins_24 : decode cX4_joins 24 = .ok (.irem, 1) := by decide +kernel
theorem dX4_joins_25 : decode cX4_joins 25 = .ok (.ifCond .eq 9, 3) := by decide +kernel
theorem dX4_joins_28 : decode cX4_joins 28 = .ok (.iinc 5 1, 3) := by decide +kernel
theorem dX4_joins_31 : decode cX4_joins 31 = .ok (.goto (-20), 3) := by decide +kernel
theorem dX4_joins_34 : decode cX4_joins 34 = .ok (.iconst 0, 1) := by decide +kernel
theorem dX4_joins_35 : decode cX4_joins 35 = .ok (.istore 6, 2) := by decide +kernel
theorem dX4_joins_37 : decode cX4_joins 37 = .ok (.iload 6, 2) := by decide +kernel
theorem dX4_joins_39 : decode cX4_joins 39 = .ok (.aload_n 0, 1) := by decide +kernel
theorem dX4_joins_40 : decode cX4_joins 40 = .ok (.getfield 21, 3) := by decide +kernel
theorem dX4_joins_43 : decode cX4_joins 43 = .ok (.if_icmp .ge 48, 3) := by decide +kernel
theorem dX4_joins_46 : decode cX4_joins 46 = .ok (.aload_n 0, 1) := by decide +kernel
theorem dX4_joins_47 : decode cX4_joins 47 = .ok (.getfield 9, 3) := by decide +kernel
theorem dX4_joins_50 : decode cX4_joins 50 = .ok (.iload 6, 2) := by decide +kernel
theorem dX4_joins_52 : decode cX4_joins 52 = .ok (.dup2, 1) := by decide +kernel
theorem dX4_joins_53 : decode cX4_joins 53 = .ok (.iaload, 1) := by decide +kernel
theorem dX4_joins_54 : decode cX4_joins 54 = .ok (.iload_n 1, 1) := by decide +kernel
theorem dX4_joins_55 : decode cX4_joins 55 = .ok (.iload 6, 2) := by decide +kernel
theorem dX4_joins_57 : decode cX4_joins 57 = .ok (.ishr, 1) := by decide +kernel
theorem dX4_joins_58 : decode cX4_joins 58 = .ok (.iconst 1, 1) := by decide +kernel
theorem dX4_joins_59 : decode cX4_joins 59 = .ok (.iand, 1) := by decide +kernel
theorem dX4_joins_60 : decode cX4_joins 60 = .ok (.ifCond .eq 8, 3) := by decide +kernel
theorem dX4_joins_63 : decode cX4_joins 63 = .ok (.iload 5, 2) := by decide +kernel
theorem dX4_joins_65 : decode cX4_joins 65 = .ok (.goto 4, 3) := by decide +kernel
theorem dX4_joins_68 : decode cX4_joins 68 = .ok (.iconst 1, 1) := by decide +kernel
theorem dX4_joins_69 : decode cX4_joins 69 = .ok (.imul, 1) := by decide +kernel
theorem dX4_joins_70 : decode cX4_joins 70 = .ok (.iastore, 1) := by decide +kernel
theorem dX4_joins_71 : decode cX4_joins 71 = .ok (.aload_n 0, 1) := by decide +kernel
theorem dX4_joins_72 : decode cX4_joins 72 = .ok (.getfield 9, 3) := by decide +kernel
theorem dX4_joins_75 : decode cX4_joins 75 = .ok (.iload 6, 2) := by decide +kernel
theorem dX4_joins_77 : decode cX4_joins 77 = .ok (.iaload, 1) := by decide +kernel
theorem dX4_joins_78 : decode cX4_joins 78 = .ok (.bipush 60, 2) := by decide +kernel
theorem dX4_joins_80 : decode cX4_joins 80 = .ok (.if_icmp .le 5, 3) := by decide +kernel
theorem dX4_joins_83 : decode cX4_joins 83 = .ok (.iconst 0, 1) := by decide +kernel
theorem dX4_joins_84 : decode cX4_joins 84 = .ok (.ireturn, 1) := by decide +kernel
theorem dX4_joins_85 : decode cX4_joins 85 = .ok (.iinc 6 1, 3) := by decide +kernel
theorem dX4_joins_88 : decode cX4_joins 88 = .ok (.goto (-51), 3) := by decide +kernel
theorem dX4_joins_91 : decode cX4_joins 91 = .ok (.aload_n 0, 1) := by decide +kernel
theorem dX4_joins_92 : decode cX4_joins 92 = .ok (.getfield 9, 3) := by decide +kernel
theorem dX4_joins_95 : decode cX4_joins 95 = .ok (.iload_n 2, 1) := by decide +kernel
theorem dX4_joins_96 : decode cX4_joins 96 = .ok (.iload_n 3, 1) := by decide +kernel
theorem dX4_joins_97 : decode cX4_joins 97 = .ok (.iload 5, 2) := by decide +kernel
theorem dX4_joins_99 : decode cX4_joins 99 = .ok (.imul, 1) := by decide +kernel
theorem dX4_joins_100 : decode cX4_joins 100 = .ok (.iload 4, 2) := by decide +kernel
theorem dX4_joins_102 : decode cX4_joins 102 = .ok (.idiv, 1) := by decide +kernel
theorem dX4_joins_103 : decode cX4_joins 103 = .ok (.iastore, 1) := by decide +kernel
theorem dX4_joins_104 : decode cX4_joins 104 = .ok (.aload_n 0, 1) := by decide +kernel
theorem dX4_joins_105 : decode cX4_joins 105 = .ok (.getfield 9, 3) := by decide +kernel
theorem dX4_joins_108 : decode cX4_joins 108 = .ok (.iload_n 2, 1) := by decide +kernel
theorem dX4_joins_109 : decode cX4_joins 109 = .ok (.iaload, 1) := by decide +kernel
theorem dX4_joins_110 : decode cX4_joins 110 = .ok (.bipush 60, 2) := by decide +kernel
theorem dX4_joins_112 : decode cX4_joins 112 = .ok (.if_icmp .gt 7, 3) := by decide +kernel
theorem dX4_joins_115 : decode cX4_joins 115 = .ok (.iconst 1, 1) := by decide +kernel
theorem dX4_joins_116 : decode cX4_joins 116 = .ok (.goto 4, 3) := by decide +kernel
theorem dX4_joins_119 : decode cX4_joins 119 = .ok (.iconst 0, 1) := by decide +kernel
theorem dX4_joins_120 : decode cX4_joins 120 = .ok (.ireturn, 1) := by decide +kernel
theorem dX5_init_0 : decode cX5_init 0 = .ok (.aload_n 0, 1) := by decide +kernel
theorem dX5_init_1 : decode cX5_init 1 = .ok (.invokespecial 3, 3) := by decide +kernel
theorem dX5_init_4 : decode cX5_init 4 = .ok (.aload_n 0, 1) := by decide +kernel
theorem dX5_init_5 : decode cX5_init 5 = .ok (.bipush 120, 2) := by decide +kernel
theorem dX5_init_7 : decode cX5_init 7 = .ok (.newarray .char, 2) := by decide +kernel
theorem dX5_init_9 : decode cX5_init 9 = .ok (.putfield 9, 3) := by decide +kernel
theorem dX5_init_12 : decode cX5_init 12 = .ok (.return_, 1) := by decide +kernel
theorem dX5_isFull_0 : decode cX5_isFull 0 = .ok (.aload_n 0, 1) := by decide +kernel
theorem dX5_isFull_1 : decode cX5_isFull 1 = .ok (.getfield 15, 3) := by decide +kernel
theorem dX5_isFull_4 : decode cX5_isFull 4 = .ok (.bipush 120, 2) := by decide +kernel
theorem dX5_isFull_6 : decode cX5_isFull 6 = .ok (.if_icmp .lt 7, 3) := by decide +kernel
theorem dX5_isFull_9 : decode cX5_isFull 9 = .ok (.iconst 1, 1) := by decide +kernel
theorem dX5_isFull_10 : decode cX5_isFull 10 = .ok (.goto 4, 3) := by decide +kernel
theorem dX5_isFull_13 : decode cX5_isFull 13 = .ok (.iconst 0, 1) := by decide +kernel
theorem dX5_isFull_14 : decode cX5_isFull 14 = .ok (.ireturn, 1) := by decide +kernel
theorem dX5_size_0 : decode cX5_size 0 = .ok (.aload_n 0, 1) := by decide +kernel
theorem dX5_size_1 : decode cX5_size 1 = .ok (.getfield 15, 3) := by decide +kernel
theorem dX5_size_4 : decode cX5_size 4 = .ok (.ireturn, 1) := by decide +kernel
theorem dX5_add_0 : decode cX5_add 0 = .ok (.aload_n 0, 1) := by decide +kernel
theorem dX5_add_1 : decode cX5_add 1 = .ok (.getfield 15, 3) := by decide +kernel
theorem dX5_add_4 : decode cX5_add 4 = .ok (.bipush 120, 2) := by decide +kernel
theorem dX5_add_6 : decode cX5_add 6 = .ok (.if_icmp .ge 23, 3) := by decide +kernel
theorem dX5_add_9 : decode cX5_add 9 = .ok (.aload_n 0, 1) := by decide +kernel
theorem dX5_add_10 : decode cX5_add 10 = .ok (.getfield 9, 3) := by decide +kernel
theorem dX5_add_13 : decode cX5_add 13 = .ok (.aload_n 0, 1) := by decide +kernel
theorem dX5_add_14 : decode cX5_add 14 = .ok (.getfield 15, 3) := by decide +kernel
theorem dX5_add_17 : decode cX5_add 17 = .ok (.iload_n 1, 1) := by decide +kernel
theorem dX5_add_18 : decode cX5_add 18 = .ok (.castore, 1) := by decide +kernel
theorem dX5_add_19 : decode cX5_add 19 = .ok (.aload_n 0, 1) := by decide +kernel
theorem dX5_add_20 : decode cX5_add 20 = .ok (.dup, 1) := by decide +kernel
theorem dX5_add_21 : decode cX5_add 21 = .ok (.getfield 15, 3) := by decide +kernel
theorem dX5_add_24 : decode cX5_add 24 = .ok (.iconst 1, 1) := by decide +kernel
theorem dX5_add_25 : decode cX5_add 25 = .ok (.iadd, 1) := by decide +kernel
theorem dX5_add_26 : decode cX5_add 26 = .ok (.putfield 15, 3) := by decide +kernel
theorem dX5_add_29 : decode cX5_add 29 = .ok (.aload_n 0, 1) := by decide +kernel
theorem dX5_add_30 : decode cX5_add 30 = .ok (.getfield 15, 3) := by decide +kernel
theorem dX5_add_33 : decode cX5_add 33 = .ok (.ireturn, 1) := by decide +kernel
theorem dX5_empty_0 : decode cX5_empty 0 = .ok (.aload_n 0, 1) := by decide +kernel
theorem dX5_empty_1 : decode cX5_empty 1 = .ok (.getfield 15, 3) := by decide +kernel
theorem dX5_empty_4 : decode cX5_empty 4 = .ok (.istore_n 1, 1) := by decide +kernel
theorem dX5_empty_5 : decode cX5_empty 5 = .ok (.aload_n 0, 1) := by decide +kernel
theorem dX5_empty_6 : decode cX5_empty 6 = .ok (.iconst 0, 1) := by decide +kernel
theorem dX5_empty_7 : decode cX5_empty 7 = .ok (.putfield 15, 3) := by decide +kernel
theorem dX5_empty_10 : decode cX5_empty 10 = .ok (.iload_n 1, 1) := by decide +kernel
theorem dX5_empty_11 : decode cX5_empty 11 = .ok (.ireturn, 1) := by decide +kernel
theorem dX5_at_0 : decode cX5_at 0 = .ok (.iload_n 1, 1) := by decide +kernel
theorem dX5_at_1 : decode cX5_at 1 = .ok (.ifCond .lt 11, 3) := by decide +kernel
theorem dX5_at_4 : decode cX5_at 4 = .ok (.iload_n 1, 1) := by decide +kernel
theorem dX5_at_5 : decode cX5_at 5 = .ok (.aload_n 0, 1) := by decide +kernel
theorem dX5_at_6 : decode cX5_at 6 = .ok (.getfield 15, 3) := by decide +kernel
theorem dX5_at_9 : decode cX5_at 9 = .ok (.if_icmp .lt 7, 3) := by decide +kernel
theorem dX5_at_12 : decode cX5_at 12 = .ok (.iconst 0, 1) := by decide +kernel
theorem dX5_at_13 : decode cX5_at 13 = .ok (.goto 9, 3) := by decide +kernel
theorem dX5_at_16 : decode cX5_at 16 = .ok (.aload_n 0, 1) := by decide +kernel
theorem dX5_at_17 : decode cX5_at 17 = .ok (.getfield 9, 3) := by decide +kernel
theorem dX5_at_20 : decode cX5_at 20 = .ok (.iload_n 1, 1) := by decide +kernel
theorem dX5_at_21 : decode cX5_at 21 = .ok (.caload, 1) := by decide +kernel
theorem dX5_at_22 : decode cX5_at 22 = .ok (.ireturn, 1) := by decide +kernel
theorem dX5_digit_0 : decode cX5_digit 0 = .ok (.aload_n 0, 1) := by decide +kernel
theorem dX5_digit_1 : decode cX5_digit 1 = .ok (.iload_n 1, 1) := by decide +kernel
theorem dX5_digit_2 : decode cX5_digit 2 = .ok (.invokevirtual 19, 3) := by decide +kernel
theorem dX5_digit_5 : decode cX5_digit 5 = .ok (.bipush 48, 2) := by decide +kernel
theorem dX5_digit_7 : decode cX5_digit 7 = .ok (.isub, 1) := by decide +kernel
theorem dX5_digit_8 : decode cX5_digit 8 = .ok (.ireturn, 1) := by decide +kernel
theorem dX5_firstError_0 : decode cX5_firstError 0 = .ok (.aload_n 0, 1) := by decide +kernel
theorem dX5_firstError_1 : decode cX5_firstError 1 = .ok (.iconst 0, 1) := by decide +kernel
theorem dX5_firstError_2 : decode cX5_firstError 2 = .ok (.invokevirtual 19, 3) := by decide +kernel
theorem dX5_firstError_5 : decode cX5_firstError 5 = .ok (.bipush 77, 2) := by decide +kernel
theorem dX5_firstError_7 : decode cX5_firstError 7 = .ok (.if_icmp .eq 5, 3) := by decide +kernel
theorem dX5_firstError_10 : decode cX5_firstError 10 = .ok (.iconst 0, 1) := by decide +kernel
theorem dX5_firstError_11 : decode cX5_firstError 11 = .ok (.ireturn, 1) := by decide +kernel
theorem dX5_firstError_12 : decode cX5_firstError 12 = .ok (.iconst 1, 1) := by decide +kernel
theorem dX5_firstError_13 : decode cX5_firstError 13 = .ok (.istore_n 1, 1) := by decide +kernel
theorem dX5_firstError_14 : decode cX5_firstError 14 = .ok (.iload_n 1, 1) := by decide +kernel
theorem dX5_firstError_15 : decode cX5_firstError 15 = .ok (.aload_n 0, 1) := by decide +kernel
theorem dX5_firstError_16 : decode cX5_firstError 16 = .ok (.getfield 15, 3) := by decide +kernel
theorem dX5_firstError_19 : decode cX5_firstError 19 = .ok (.if_icmp .ge 32, 3) := by decide +kernel
theorem dX5_firstError_22 : decode cX5_firstError 22 = .ok (.aload_n 0, 1) := by decide +kernel
theorem dX5_firstError_23 : decode cX5_firstError 23 = .ok (.iload_n 1, 1) := by decide +kernel
theorem dX5_firstError_24 : decode cX5_firstError 24 = .ok (.invokevirtual 23, 3) := by decide +kernel
theorem dX5_firstError_27 : decode cX5_firstError 27 = .ok (.istore_n 2, 1) := by decide +kernel
theorem dX5_firstError_28 : decode cX5_firstError 28 = .ok (.iload_n 2, 1) := by decide +kernel
theorem dX5_firstError_29 : decode cX5_firstError 29 = .ok (.iconst (-1), 1) := by decide +kernel
theorem dX5_firstError_30 : decode cX5_firstError 30 = .ok (.if_icmp .eq 5, 3) := by decide +kernel
theorem dX5_firstError_33 : decode cX5_firstError 33 = .ok (.iload_n 2, 1) := by decide +kernel
theorem dX5_firstError_34 : decode cX5_firstError 34 = .ok (.ireturn, 1) := by decide +kernel
theorem dX5_firstError_35 : decode cX5_firstError 35 = .ok (.iload_n 1, 1) := by decide +kernel
theorem dX5_firstError_36 : decode cX5_firstError 36 = .ok (.iconst 1, 1) := by decide +kernel
theorem dX5_firstError_37 : decode cX5_firstError 37 = .ok (.aload_n 0, 1) := by decide +kernel
theorem dX5_firstError_38 : decode cX5_firstError 38 = .ok (.iload_n 1, 1) := by decide +kernel
theorem dX5_firstError_39 : decode cX5_firstError 39 = .ok (.invokevirtual 19, 3) := by decide +kernel
theorem dX5_firstError_42 : decode cX5_firstError 42 = .ok (.invokestatic 27, 3) := by decide +kernel
theorem dX5_firstError_45 : decode cX5_firstError 45 = .ok (.iadd, 1) := by decide +kernel
theorem dX5_firstError_46 : decode cX5_firstError 46 = .ok (.iadd, 1) := by decide +kernel
theorem dX5_firstError_47 : decode cX5_firstError 47 = .ok (.istore_n 1, 1) := by decide +kernel
theorem dX5_firstError_48 : decode cX5_firstError 48 = .ok (.goto (-34), 3) := by decide +kernel
theorem dX5_firstError_51 : decode cX5_firstError 51 = .ok (.iconst (-1), 1) := by decide +kernel
theorem dX5_firstError_52 : decode cX5_firstError 52 = .ok (.ireturn, 1) := by decide +kernel
theorem dX5_errorOfCommand_0 : decode cX5_errorOfCommand 0 = .ok (.aload_n 0, 1) := by decide +kernel
theorem dX5_errorOfCommand_1 : decode cX5_errorOfCommand 1 = .ok (.iload_n 1, 1) := by decide +kernel
theorem dX5_errorOfCommand_2 : decode cX5_errorOfCommand 2 = .ok (.invokevirtual 19, 3) := by decide +kernel
theorem dX5_errorOfCommand_5 : decode cX5_errorOfCommand 5 = .ok (.invokestatic 27, 3) := by decide +kernel
theorem dX5_errorOfCommand_8 : decode cX5_errorOfCommand 8 = .ok (.istore_n 2, 1) := by decide +kernel
theorem dX5_errorOfCommand_9 : decode cX5_errorOfCommand 9 = .ok (.iload_n 2, 1) := by decide +kernel
theorem dX5_errorOfCommand_10 : decode cX5_errorOfCommand 10 = .ok (.ifCond .ne 5, 3) := by decide +kernel
theorem dX5_errorOfCommand_13 : decode cX5_errorOfCommand 13 = .ok (.iload_n 1, 1) := by decide +kernel
theorem dX5_errorOfCommand_14 : decode cX5_errorOfCommand 14 = .ok (.ireturn, 1) := by decide +kernel
theorem dX5_errorOfCommand_15 : decode cX5_errorOfCommand 15 = .ok (.iconst 1, 1) := by decide +kernel
theorem dX5_errorOfCommand_16 : decode cX5_errorOfCommand 16 = .ok (.istore_n 3, 1) := by decide +kernel
theorem dX5_errorOfCommand_17 : decode cX5_errorOfCommand 17 = .ok (.iload_n 3, 1) := by decide +kernel
theorem dX5_errorOfCommand_18 : decode cX5_errorOfCommand 18 = .ok (.iload_n 2, 1) := by decide +kernel
theorem dX5_errorOfCommand_19 : decode cX5_errorOfCommand 19 = .ok (.if_icmp .gt 75, 3) := by decide +kernel
theorem dX5_errorOfCommand_22 : decode cX5_errorOfCommand 22 = .ok (.iload_n 1, 1) := by decide +kernel
theorem dX5_errorOfCommand_23 : decode cX5_errorOfCommand 23 = .ok (.iload_n 3, 1) := by decide +kernel
theorem dX5_errorOfCommand_24 : decode cX5_errorOfCommand 24 = .ok (.iadd, 1) := by decide +kernel
theorem dX5_errorOfCommand_25 : decode cX5_errorOfCommand 25 = .ok (.aload_n 0, 1) := by decide +kernel
theorem dX5_errorOfCommand_26 : decode cX5_errorOfCommand 26 = .ok (.getfield 15, 3) := by decide +kernel
theorem dX5_errorOfCommand_29 : decode cX5_errorOfCommand 29 = .ok (.if_icmp .lt 8, 3) := by decide +kernel
theorem dX5_errorOfCommand_32 : decode cX5_errorOfCommand 32 = .ok (.aload_n 0, 1) := by decide +kernel
theorem dX5_errorOfCommand_33 : decode cX5_errorOfCommand 33 = .ok (.getfield 15, 3) := by decide +kernel
theorem dX5_errorOfCommand_36 : decode cX5_errorOfCommand 36 = .ok (.ireturn, 1) := by decide +kernel
theorem dX5_errorOfCommand_37 : decode cX5_errorOfCommand 37 = .ok (.aload_n 0, 1) := by decide +kernel
theorem dX5_errorOfCommand_38 : decode cX5_errorOfCommand 38 = .ok (.iload_n 1, 1) := by decide +kernel
theorem dX5_errorOfCommand_39 : decode cX5_errorOfCommand 39 = .ok (.iload_n 3, 1) := by decide +kernel
theorem dX5_errorOfCommand_40 : decode cX5_errorOfCommand 40 = .ok (.iadd, 1) := by decide +kernel
theorem dX5_errorOfCommand_41 : decode cX5_errorOfCommand 41 = .ok (.invokevirtual 19, 3) := by decide +kernel
theorem dX5_errorOfCommand_44 : decode cX5_errorOfCommand 44 = .ok (.aload_n 0, 1) := by decide +kernel
theorem dX5_errorOfCommand_45 : decode cX5_errorOfCommand 45 = .ok (.iload_n 1, 1) := by decide +kernel
theorem dX5_errorOfCommand_46 : decode cX5_errorOfCommand 46 = .ok (.invokevirtual 19, 3) := by decide +kernel
theorem dX5_errorOfCommand_49 : decode cX5_errorOfCommand 49 = .ok (.iload_n 3, 1) := by decide +kernel
theorem dX5_errorOfCommand_50 : decode cX5_errorOfCommand 50 = .ok (.invokestatic 31, 3) := by decide +kernel
theorem dX5_errorOfCommand_53 : decode cX5_errorOfCommand 53 = .ok (.if_icmp .lt 31, 3) := by decide +kernel
theorem dX5_errorOfCommand_56 : decode cX5_errorOfCommand 56 = .ok (.aload_n 0, 1) := by decide +kernel
theorem dX5_errorOfCommand_57 : decode cX5_errorOfCommand 57 = .ok (.iload_n 1, 1) := by decide +kernel
theorem dX5_errorOfCommand_58 : decode cX5_errorOfCommand 58 = .ok (.iload_n 3, 1) := by decide +kernel
theorem dX5_errorOfCommand_59 : decode cX5_errorOfCommand 59 = .ok (.iadd, 1) := by decide +kernel
theorem dX5_errorOfCommand_60 : decode cX5_errorOfCommand 60 = .ok (.invokevirtual 19, 3) := by decide +kernel
theorem dX5_errorOfCommand_63 : decode cX5_errorOfCommand 63 = .ok (.aload_n 0, 1) := by decide +kernel
theorem dX5_errorOfCommand_64 : decode cX5_errorOfCommand 64 = .ok (.iload_n 1, 1) := by decide +kernel
theorem dX5_errorOfCommand_65 : decode cX5_errorOfCommand 65 = .ok (.invokevirtual 19, 3) := by decide +kernel
theorem dX5_errorOfCommand_68 : decode cX5_errorOfCommand 68 = .ok (.iload_n 3, 1) := by decide +kernel
theorem dX5_errorOfCommand_69 : decode cX5_errorOfCommand 69 = .ok (.aload_n 0, 1) := by decide +kernel
theorem dX5_errorOfCommand_70 : decode cX5_errorOfCommand 70 = .ok (.iload_n 1, 1) := by decide +kernel
theorem dX5_errorOfCommand_71 : decode cX5_errorOfCommand 71 = .ok (.iload_n 3, 1) := by decide +kernel
theorem dX5_errorOfCommand_72 : decode cX5_errorOfCommand 72 = .ok (.iadd, 1) := by decide +kernel
theorem dX5_errorOfCommand_73 : decode cX5_errorOfCommand 73 = .ok (.iconst 1, 1) := by decide +kernel
theorem dX5_errorOfCommand_74 : decode cX5_errorOfCommand 74 = .ok (.isub, 1) := by decide +kernel
theorem dX5_errorOfCommand_75 : decode cX5_errorOfCommand 75 = .ok (.invokevirtual 19, 3) := by decide +kernel
theorem dX5_errorOfCommand_78 : decode cX5_errorOfCommand 78 = .ok (.invokestatic 35, 3) := by decide +kernel
theorem dX5_errorOfCommand_81 : decode cX5_errorOfCommand 81 = .ok (.if_icmp .le 7, 3) := by decide +kernel
theorem dX5_errorOfCommand_84 : decode cX5_errorOfCommand 84 = .ok (.iload_n 1, 1) := by decide +kernel
theorem dX5_errorOfCommand_85 : decode cX5_errorOfCommand 85 = .ok (.iload_n 3, 1) := by decide +kernel
theorem dX5_errorOfCommand_86 : decode cX5_errorOfCommand 86 = .ok (.iadd, 1) := by decide +kernel
theorem dX5_errorOfCommand_87 : decode cX5_errorOfCommand 87 = .ok (.ireturn, 1) := by decide +kernel
theorem dX5_errorOfCommand_88 : decode cX5_errorOfCommand 88 = .ok (.iinc 3 1, 3) := by decide +kernel
theorem dX5_errorOfCommand_91 : decode cX5_errorOfCommand 91 = .ok (.goto (-74), 3) := by decide +kernel
theorem dX5_errorOfCommand_94 : decode cX5_errorOfCommand 94 = .ok (.iconst (-1), 1) := by decide +kernel
theorem dX5_errorOfCommand_95 : decode cX5_errorOfCommand 95 = .ok (.ireturn, 1) := by decide +kernel
theorem dX5_digitsOf_0 : decode cX5_digitsOf 0 = .ok (.iload_n 0, 1) := by decide +kernel
theorem dX5_digitsOf_1 : decode cX5_digitsOf 1 = .ok (.lookupswitch 52 #[(99, 48), (102, 50), (109, 43), (119, 45)], 43) := by decide +kernel
theorem dX5_digitsOf_44 : decode cX5_digitsOf 44 = .ok (.iconst 2, 1) := by decide +kernel
theorem dX5_digitsOf_45 : decode cX5_digitsOf 45 = .ok (.ireturn, 1) := by decide +kernel
theorem dX5_digitsOf_46 : decode cX5_digitsOf 46 = .ok (.bipush 6, 2) := by decide +kernel
theorem dX5_digitsOf_48 : decode cX5_digitsOf 48 = .ok (.ireturn, 1) := by decide +kernel
theorem dX5_digitsOf_49 : decode cX5_digitsOf 49 = .ok (.iconst 2, 1) := by decide +kernel
theorem dX5_digitsOf_50 : decode cX5_digitsOf 50 = .ok (.ireturn, 1) := by decide +kernel
theorem dX5_digitsOf_51 : decode cX5_digitsOf 51 = .ok (.iconst 1, 1) := by decide +kernel
theorem dX5_digitsOf_52 : decode cX5_digitsOf 52 = .ok (.ireturn, 1) := by decide +kernel
theorem dX5_digitsOf_53 : decode cX5_digitsOf 53 = .ok (.iconst 0, 1) := by decide +kernel
theorem dX5_digitsOf_54 : decode cX5_digitsOf 54 = .ok (.ireturn, 1) := by decide +kernel
theorem dX5_lowest_0 : decode cX5_lowest 0 = .ok (.iload_n 0, 1) := by decide +kernel
theorem dX5_lowest_1 : decode cX5_lowest 1 = .ok (.bipush 119, 2) := by decide +kernel
theorem dX5_lowest_3 : decode cX5_lowest 3 = .ok (.if_icmp .ne 18, 3) := by decide +kernel
theorem dX5_lowest_6 : decode cX5_lowest 6 = .ok (.iload_n 1, 1) := by decide +kernel
theorem dX5_lowest_7 : decode cX5_lowest 7 = .ok (.iconst 3, 1) := by decide +kernel
theorem dX5_lowest_8 : decode cX5_lowest 8 = .ok (.if_icmp .eq 8, 3) := by decide +kernel
theorem dX5_lowest_11 : decode cX5_lowest 11 = .ok (.iload_n 1, 1) := by decide +kernel
theorem dX5_lowest_12 : decode cX5_lowest 12 = .ok (.iconst 4, 1) := by decide +kernel
theorem dX5_lowest_13 : decode cX5_lowest 13 = .ok (.if_icmp .ne 8, 3) := by decide +kernel
theorem dX5_lowest_16 : decode cX5_lowest 16 = .ok (.bipush 49, 2) := by decide +kernel
theorem dX5_lowest_18 : decode cX5_lowest 18 = .ok (.goto 5, 3) := by decide +kernel
theorem dX5_lowest_21 : decode cX5_lowest 21 = .ok (.bipush 48, 2) := by decide +kernel
theorem dX5_lowest_23 : decode cX5_lowest 23 = .ok (.ireturn, 1) := by decide +kernel
theorem dX5_highest_0 : decode cX5_highest 0 = .ok (.iload_n 0, 1) := by decide +kernel
theorem dX5_highest_1 : decode cX5_highest 1 = .ok (.lookupswitch 85 #[(99, 61), (109, 35), (119, 38)], 35) := by decide +kernel
theorem dX5_highest_36 : decode cX5_highest 36 = .ok (.bipush 51, 2) := by decide +kernel
theorem dX5_highest_38 : decode cX5_highest 38 = .ok (.ireturn, 1) := by decide +kernel
theorem dX5_highest_39 : decode cX5_highest 39 = .ok (.iload_n 1, 1) := by decide +kernel
theorem dX5_highest_40 : decode cX5_highest 40 = .ok (.iconst 2, 1) := by decide +kernel
theorem dX5_highest_41 : decode cX5_highest 41 = .ok (.if_icmp .gt 8, 3) := by decide +kernel
theorem dX5_highest_44 : decode cX5_highest 44 = .ok (.bipush 55, 2) := by decide +kernel
theorem dX5_highest_46 : decode cX5_highest 46 = .ok (.goto 15, 3) := by decide +kernel
theorem dX5_highest_49 : decode cX5_highest 49 = .ok (.iload_n 1, 1) := by decide +kernel
theorem dX5_highest_50 : decode cX5_highest 50 = .ok (.iconst 4, 1) := by decide +kernel
theorem dX5_highest_51 : decode cX5_highest 51 = .ok (.if_icmp .gt 8, 3) := by decide +kernel
theorem dX5_highest_54 : decode cX5_highest 54 = .ok (.bipush 54, 2) := by decide +kernel
theorem dX5_highest_56 : decode cX5_highest 56 = .ok (.goto 5, 3) := by decide +kernel
theorem dX5_highest_59 : decode cX5_highest 59 = .ok (.bipush 57, 2) := by decide +kernel
theorem dX5_highest_61 : decode cX5_highest 61 = .ok (.ireturn, 1) := by decide +kernel
theorem dX5_highest_62 : decode cX5_highest 62 = .ok (.iload_n 1, 1) := by decide +kernel
theorem dX5_highest_63 : decode cX5_highest 63 = .ok (.iconst 1, 1) := by decide +kernel
theorem dX5_highest_64 : decode cX5_highest 64 = .ok (.if_icmp .ne 8, 3) := by decide +kernel
theorem dX5_highest_67 : decode cX5_highest 67 = .ok (.bipush 49, 2) := by decide +kernel
theorem dX5_highest_69 : decode cX5_highest 69 = .ok (.goto 16, 3) := by decide +kernel
theorem dX5_highest_72 : decode cX5_highest 72 = .ok (.iload_n 2, 1) := by decide +kernel
theorem dX5_highest_73 : decode cX5_highest 73 = .ok (.bipush 48, 2) := by decide +kernel
theorem dX5_highest_75 : decode cX5_highest 75 = .ok (.if_icmp .ne 8, 3) := by decide +kernel
theorem dX5_highest_78 : decode cX5_highest 78 = .ok (.bipush 57, 2) := by decide +kernel
theorem dX5_highest_80 : decode cX5_highest 80 = .ok (.goto 5, 3) := by decide +kernel
theorem dX5_highest_83 : decode cX5_highest 83 = .ok (.bipush 51, 2) := by decide +kernel
theorem dX5_highest_85 : decode cX5_highest 85 = .ok (.ireturn, 1) := by decide +kernel
theorem dX5_highest_86 : decode cX5_highest 86 = .ok (.bipush 55, 2) := by decide +kernel
theorem dX5_highest_88 : decode cX5_highest 88 = .ok (.ireturn, 1) := by decide +kernel
theorem dX6_init_0 : decode cX6_init 0 = .ok (.aload_n 0, 1) := by decide +kernel
theorem dX6_init_1 : decode cX6_init 1 = .ok (.invokespecial 3, 3) := by decide +kernel
theorem dX6_init_4 : decode cX6_init 4 = .ok (.aload_n 0, 1) := by decide +kernel
theorem dX6_init_5 : decode cX6_init 5 = .ok (.bipush 8, 2) := by decide +kernel
theorem dX6_init_7 : decode cX6_init 7 = .ok (.newarray .int, 2) := by decide +kernel
theorem dX6_init_9 : decode cX6_init 9 = .ok (.putfield 9, 3) := by decide +kernel
theorem dX6_init_12 : decode cX6_init 12 = .ok (.return_, 1) := by decide +kernel
theorem dX6_fewestMarks_0 : decode cX6_fewestMarks 0 = .ok (.iconst 0, 1) := by decide +kernel
theorem dX6_fewestMarks_1 : decode cX6_fewestMarks 1 = .ok (.istore 4, 2) := by decide +kernel
theorem dX6_fewestMarks_3 : decode cX6_fewestMarks 3 = .ok (.iload 4, 2) := by decide +kernel
theorem dX6_fewestMarks_5 : decode cX6_fewestMarks 5 = .ok (.bipush 8, 2) := by decide +kernel
theorem dX6_fewestMarks_7 : decode cX6_fewestMarks 7 = .ok (.if_icmp .ge 17, 3) := by decide +kernel
theorem dX6_fewestMarks_10 : decode cX6_fewestMarks 10 = .ok (.aload_n 0, 1) := by decide +kernel
theorem dX6_fewestMarks_11 : decode cX6_fewestMarks 11 = .ok (.getfield 9, 3) := by decide +kernel
theorem dX6_fewestMarks_14 : decode cX6_fewestMarks 14 = .ok (.iload 4, 2) := by decide +kernel
theorem dX6_fewestMarks_16 : decode cX6_fewestMarks 16 = .ok (.iconst (-1), 1) := by decide +kernel
theorem dX6_fewestMarks_17 : decode cX6_fewestMarks 17 = .ok (.iastore, 1) := by decide +kernel
theorem dX6_fewestMarks_18 : decode cX6_fewestMarks 18 = .ok (.iinc 4 1, 3) := by decide +kernel
theorem dX6_fewestMarks_21 : decode cX6_fewestMarks 21 = .ok (.goto (-18), 3) := by decide +kernel
theorem dX6_fewestMarks_24 : decode cX6_fewestMarks 24 = .ok (.iconst 0, 1) := by decide +kernel
theorem dX6_fewestMarks_25 : decode cX6_fewestMarks 25 = .ok (.istore 4, 2) := by decide +kernel
theorem dX6_fewestMarks_27 : decode cX6_fewestMarks 27 = .ok (.iload 4, 2) := by decide +kernel
theorem dX6_fewestMarks_29 : decode cX6_fewestMarks 29 = .ok (.aload_n 1, 1) := by decide +kernel
theorem dX6_fewestMarks_30 : decode cX6_fewestMarks 30 = .ok (.getfield 15, 3) := by decide +kernel
theorem dX6_fewestMarks_33 : decode cX6_fewestMarks 33 = .ok (.if_icmp .ge 38, 3) := by decide +kernel
theorem dX6_fewestMarks_36 : decode cX6_fewestMarks 36 = .ok (.aload_n 1, 1) := by decide +kernel
theorem dX6_fewestMarks_37 : decode cX6_fewestMarks 37 = .ok (.getfield 21, 3) := by decide +kernel
theorem dX6_fewestMarks_40 : decode cX6_fewestMarks 40 = .ok (.iload 4, 2) := by decide +kernel
theorem dX6_fewestMarks_42 : decode cX6_fewestMarks 42 = .ok (.iaload, 1) := by decide +kernel
theorem dX6_fewestMarks_43 : decode cX6_fewestMarks 43 = .ok (.iload_n 2, 1) := by decide +kernel
theorem dX6_fewestMarks_44 : decode cX6_fewestMarks 44 = .ok (.if_icmp .ne 21, 3) := by decide +kernel
theorem dX6_fewestMarks_47 : decode cX6_fewestMarks 47 = .ok (.aload_n 0, 1) := by decide +kernel
theorem dX6_fewestMarks_48 : decode cX6_fewestMarks 48 = .ok (.aload_n 1, 1) := by decide +kernel
theorem dX6_fewestMarks_49 : decode cX6_fewestMarks 49 = .ok (.getfield 24, 3) := by decide +kernel
theorem dX6_fewestMarks_52 : decode cX6_fewestMarks 52 = .ok (.iload 4, 2) := by decide +kernel
theorem dX6_fewestMarks_54 : decode cX6_fewestMarks 54 = .ok (.iaload, 1) := by decide +kernel
theorem dX6_fewestMarks_55 : decode cX6_fewestMarks 55 = .ok (.aload_n 1, 1) := by decide +kernel
theorem dX6_fewestMarks_56 : decode cX6_fewestMarks 56 = .ok (.getfield 27, 3) := by decide +kernel
theorem dX6_fewestMarks_59 : decode cX6_fewestMarks 59 = .ok (.iload 4, 2) := by decide +kernel
theorem dX6_fewestMarks_61 : decode cX6_fewestMarks 61 = .ok (.iaload, 1) := by decide +kernel
theorem dX6_fewestMarks_62 : decode cX6_fewestMarks 62 = .ok (.invokevirtual 30, 3) := by decide +kernel
theorem dX6_fewestMarks_65 : decode cX6_fewestMarks 65 = .ok (.iinc 4 1, 3) := by decide +kernel
theorem dX6_fewestMarks_68 : decode cX6_fewestMarks 68 = .ok (.goto (-41), 3) := by decide +kernel
theorem dX6_fewestMarks_71 : decode cX6_fewestMarks 71 = .ok (.iconst 1, 1) := by decide +kernel
theorem dX6_fewestMarks_72 : decode cX6_fewestMarks 72 = .ok (.istore 4, 2) := by decide +kernel
theorem dX6_fewestMarks_74 : decode cX6_fewestMarks 74 = .ok (.iload 4, 2) := by decide +kernel
theorem dX6_fewestMarks_76 : decode cX6_fewestMarks 76 = .ok (.aload_n 1, 1) := by decide +kernel
theorem dX6_fewestMarks_77 : decode cX6_fewestMarks 77 = .ok (.getfield 34, 3) := by decide +kernel
theorem dX6_fewestMarks_80 : decode cX6_fewestMarks 80 = .ok (.if_icmp .ge 74, 3) := by decide +kernel
theorem dX6_fewestMarks_83 : decode cX6_fewestMarks 83 = .ok (.iconst 0, 1) := by decide +kernel
theorem dX6_fewestMarks_84 : decode cX6_fewestMarks 84 = .ok (.istore 5, 2) := by decide +kernel
theorem dX6_fewestMarks_86 : decode cX6_fewestMarks 86 = .ok (.iload 5, 2) := by decide +kernel
theorem dX6_fewestMarks_88 : decode cX6_fewestMarks 88 = .ok (.aload_n 1, 1) := by decide +kernel
theorem dX6_fewestMarks_89 : decode cX6_fewestMarks 89 = .ok (.getfield 15, 3) := by decide +kernel
theorem dX6_fewestMarks_92 : decode cX6_fewestMarks 92 = .ok (.if_icmp .ge 56, 3) := by decide +kernel
theorem dX6_fewestMarks_95 : decode cX6_fewestMarks 95 = .ok (.aload_n 0, 1) := by decide +kernel
theorem dX6_fewestMarks_96 : decode cX6_fewestMarks 96 = .ok (.getfield 9, 3) := by decide +kernel
theorem dX6_fewestMarks_99 : decode cX6_fewestMarks 99 = .ok (.aload_n 1, 1) := by decide +kernel
theorem dX6_fewestMarks_100 : decode cX6_fewestMarks 100 = .ok (.getfield 21, 3) := by decide +kernel
theorem dX6_fewestMarks_103 : decode cX6_fewestMarks 103 = .ok (.iload 5, 2) := by decide +kernel
theorem dX6_fewestMarks_105 : decode cX6_fewestMarks 105 = .ok (.iaload, 1) := by decide +kernel
theorem dX6_fewestMarks_106 : decode cX6_fewestMarks 106 = .ok (.iaload, 1) := by decide +kernel
theorem dX6_fewestMarks_107 : decode cX6_fewestMarks 107 = .ok (.iconst (-1), 1) := by decide +kernel
theorem dX6_fewestMarks_108 : decode cX6_fewestMarks 108 = .ok (.if_icmp .eq 34, 3) := by decide +kernel
theorem dX6_fewestMarks_111 : decode cX6_fewestMarks 111 = .ok (.aload_n 0, 1) := by decide +kernel
theorem dX6_fewestMarks_112 : decode cX6_fewestMarks 112 = .ok (.aload_n 1, 1) := by decide +kernel
theorem dX6_fewestMarks_113 : decode cX6_fewestMarks 113 = .ok (.getfield 24, 3) := by decide +kernel
theorem dX6_fewestMarks_116 : decode cX6_fewestMarks 116 = .ok (.iload 5, 2) := by decide +kernel
theorem dX6_fewestMarks_118 : decode cX6_fewestMarks 118 = .ok (.iaload, 1) := by decide +kernel
theorem dX6_fewestMarks_119 : decode cX6_fewestMarks 119 = .ok (.aload_n 0, 1) := by decide +kernel
theorem dX6_fewestMarks_120 : decode cX6_fewestMarks 120 = .ok (.getfield 9, 3) := by decide +kernel
theorem dX6_fewestMarks_123 : decode cX6_fewestMarks 123 = .ok (.aload_n 1, 1) := by decide +kernel
theorem dX6_fewestMarks_124 : decode cX6_fewestMarks 124 = .ok (.getfield 21, 3) := by decide +kernel
theorem dX6_fewestMarks_127 : decode cX6_fewestMarks 127 = .ok (.iload 5, 2) := by decide +kernel
theorem dX6_fewestMarks_129 : decode cX6_fewestMarks 129 = .ok (.iaload, 1) := by decide +kernel
theorem dX6_fewestMarks_130 : decode cX6_fewestMarks 130 = .ok (.iaload, 1) := by decide +kernel
theorem dX6_fewestMarks_131 : decode cX6_fewestMarks 131 = .ok (.aload_n 1, 1) := by decide +kernel
theorem dX6_fewestMarks_132 : decode cX6_fewestMarks 132 = .ok (.getfield 27, 3) := by decide +kernel
theorem dX6_fewestMarks_135 : decode cX6_fewestMarks 135 = .ok (.iload 5, 2) := by decide +kernel
theorem dX6_fewestMarks_137 : decode cX6_fewestMarks 137 = .ok (.iaload, 1) := by decide +kernel
theorem dX6_fewestMarks_138 : decode cX6_fewestMarks 138 = .ok (.iadd, 1) := by decide +kernel
theorem dX6_fewestMarks_139 : decode cX6_fewestMarks 139 = .ok (.invokevirtual 30, 3) := by decide +kernel
theorem dX6_fewestMarks_142 : decode cX6_fewestMarks 142 = .ok (.iinc 5 1, 3) := by decide +kernel
theorem dX6_fewestMarks_145 : decode cX6_fewestMarks 145 = .ok (.goto (-59), 3) := by decide +kernel
theorem dX6_fewestMarks_148 : decode cX6_fewestMarks 148 = .ok (.iinc 4 1, 3) := by decide +kernel
theorem dX6_fewestMarks_151 : decode cX6_fewestMarks 151 = .ok (.goto (-77), 3) := by decide +kernel
theorem dX6_fewestMarks_154 : decode cX6_fewestMarks 154 = .ok (.aload_n 0, 1) := by decide +kernel
theorem dX6_fewestMarks_155 : decode cX6_fewestMarks 155 = .ok (.getfield 9, 3) := by decide +kernel
theorem dX6_fewestMarks_158 : decode cX6_fewestMarks 158 = .ok (.iload_n 3, 1) := by decide +kernel
theorem dX6_fewestMarks_159 : decode cX6_fewestMarks 159 = .ok (.iaload, 1) := by decide +kernel
theorem dX6_fewestMarks_160 : decode cX6_fewestMarks 160 = .ok (.ireturn, 1) := by decide +kernel
theorem dX6_shorten_0 : decode cX6_shorten 0 = .ok (.aload_n 0, 1) := by decide +kernel
theorem dX6_shorten_1 : decode cX6_shorten 1 = .ok (.getfield 9, 3) := by decide +kernel
theorem dX6_shorten_4 : decode cX6_shorten 4 = .ok (.iload_n 1, 1) := by decide +kernel
theorem dX6_shorten_5 : decode cX6_shorten 5 = .ok (.iaload, 1) := by decide +kernel
theorem dX6_shorten_6 : decode cX6_shorten 6 = .ok (.iconst (-1), 1) := by decide +kernel
theorem dX6_shorten_7 : decode cX6_shorten 7 = .ok (.if_icmp .eq 13, 3) := by decide +kernel
theorem dX6_shorten_10 : decode cX6_shorten 10 = .ok (.aload_n 0, 1) := by decide +kernel
theorem dX6_shorten_11 : decode cX6_shorten 11 = .ok (.getfield 9, 3) := by decide +kernel
theorem dX6_shorten_14 : decode cX6_shorten 14 = .ok (.iload_n 1, 1) := by decide +kernel
theorem dX6_shorten_15 : decode cX6_shorten 15 = .ok (.iaload, 1) := by decide +kernel
theorem dX6_shorten_16 : decode cX6_shorten 16 = .ok (.iload_n 2, 1) := by decide +kernel
theorem dX6_shorten_17 : decode cX6_shorten 17 = .ok (.if_icmp .le 10, 3) := by decide +kernel
theorem dX6_shorten_20 : decode cX6_shorten 20 = .ok (.aload_n 0, 1) := by decide +kernel
theorem dX6_shorten_21 : decode cX6_shorten 21 = .ok (.getfield 9, 3) := by decide +kernel
theorem dX6_shorten_24 : decode cX6_shorten 24 = .ok (.iload_n 1, 1) := by decide +kernel
theorem dX6_shorten_25 : decode cX6_shorten 25 = .ok (.iload_n 2, 1) := by decide +kernel
theorem dX6_shorten_26 : decode cX6_shorten 26 = .ok (.iastore, 1) := by decide +kernel
theorem dX6_shorten_27 : decode cX6_shorten 27 = .ok (.return_, 1) := by decide +kernel
theorem dX7_init_0 : decode cX7_init 0 = .ok (.aload_n 0, 1) := by decide +kernel
theorem dX7_init_1 : decode cX7_init 1 = .ok (.invokespecial 1, 3) := by decide +kernel
theorem dX7_init_4 : decode cX7_init 4 = .ok (.aload_n 0, 1) := by decide +kernel
theorem dX7_init_5 : decode cX7_init 5 = .ok (.new 7, 3) := by decide +kernel
theorem dX7_init_8 : decode cX7_init 8 = .ok (.dup, 1) := by decide +kernel
theorem dX7_init_9 : decode cX7_init 9 = .ok (.invokespecial 9, 3) := by decide +kernel
theorem dX7_init_12 : decode cX7_init 12 = .ok (.putfield 10, 3) := by decide +kernel
theorem dX7_init_15 : decode cX7_init 15 = .ok (.aload_n 0, 1) := by decide +kernel
theorem dX7_init_16 : decode cX7_init 16 = .ok (.new 16, 3) := by decide +kernel
theorem dX7_init_19 : decode cX7_init 19 = .ok (.dup, 1) := by decide +kernel
theorem dX7_init_20 : decode cX7_init 20 = .ok (.invokespecial 18, 3) := by decide +kernel
theorem dX7_init_23 : decode cX7_init 23 = .ok (.putfield 19, 3) := by decide +kernel
theorem dX7_init_26 : decode cX7_init 26 = .ok (.aload_n 0, 1) := by decide +kernel
theorem dX7_init_27 : decode cX7_init 27 = .ok (.new 23, 3) := by decide +kernel
theorem dX7_init_30 : decode cX7_init 30 = .ok (.dup, 1) := by decide +kernel
theorem dX7_init_31 : decode cX7_init 31 = .ok (.invokespecial 25, 3) := by decide +kernel
theorem dX7_init_34 : decode cX7_init 34 = .ok (.putfield 26, 3) := by decide +kernel
theorem dX7_init_37 : decode cX7_init 37 = .ok (.aload_n 0, 1) := by decide +kernel
theorem dX7_init_38 : decode cX7_init 38 = .ok (.iconst 2, 1) := by decide +kernel
theorem dX7_init_39 : decode cX7_init 39 = .ok (.anewarray 16, 3) := by decide +kernel
theorem dX7_init_42 : decode cX7_init 42 = .ok (.putfield 30, 3) := by decide +kernel
theorem dX7_init_45 : decode cX7_init 45 = .ok (.aload_n 0, 1) := by decide +kernel
theorem dX7_init_46 : decode cX7_init 46 = .ok (.iconst 2, 1) := by decide +kernel
theorem dX7_init_47 : decode cX7_init 47 = .ok (.newarray .boolean, 2) := by decide +kernel
theorem dX7_init_49 : decode cX7_init 49 = .ok (.putfield 34, 3) := by decide +kernel
theorem dX7_init_52 : decode cX7_init 52 = .ok (.aload_n 0, 1) := by decide +kernel
theorem dX7_init_53 : decode cX7_init 53 = .ok (.new 16, 3) := by decide +kernel
theorem dX7_init_56 : decode cX7_init 56 = .ok (.dup, 1) := by decide +kernel
theorem dX7_init_57 : decode cX7_init 57 = .ok (.invokespecial 18, 3) := by decide +kernel
theorem dX7_init_60 : decode cX7_init 60 = .ok (.putfield 38, 3) := by decide +kernel
theorem dX7_init_63 : decode cX7_init 63 = .ok (.aload_n 0, 1) := by decide +kernel
theorem dX7_init_64 : decode cX7_init 64 = .ok (.new 41, 3) := by decide +kernel
theorem dX7_init_67 : decode cX7_init 67 = .ok (.dup, 1) := by decide +kernel
theorem dX7_init_68 : decode cX7_init 68 = .ok (.invokespecial 43, 3) := by decide +kernel
theorem dX7_init_71 : decode cX7_init 71 = .ok (.putfield 44, 3) := by decide +kernel
theorem dX7_init_74 : decode cX7_init 74 = .ok (.aload_n 0, 1) := by decide +kernel
theorem dX7_init_75 : decode cX7_init 75 = .ok (.new 48, 3) := by decide +kernel
theorem dX7_init_78 : decode cX7_init 78 = .ok (.dup, 1) := by decide +kernel
theorem dX7_init_79 : decode cX7_init 79 = .ok (.invokespecial 50, 3) := by decide +kernel
theorem dX7_init_82 : decode cX7_init 82 = .ok (.putfield 51, 3) := by decide +kernel
theorem dX7_init_85 : decode cX7_init 85 = .ok (.aload_n 0, 1) := by decide +kernel
theorem dX7_init_86 : decode cX7_init 86 = .ok (.new 55, 3) := by decide +kernel
theorem dX7_init_89 : decode cX7_init 89 = .ok (.dup, 1) := by decide +kernel
theorem dX7_init_90 : decode cX7_init 90 = .ok (.invokespecial 57, 3) := by decide +kernel
theorem dX7_init_93 : decode cX7_init 93 = .ok (.putfield 58, 3) := by decide +kernel
theorem dX7_init_96 : decode cX7_init 96 = .ok (.iconst 0, 1) := by decide +kernel
theorem dX7_init_97 : decode cX7_init 97 = .ok (.istore_n 1, 1) := by decide +kernel
theorem dX7_init_98 : decode cX7_init 98 = .ok (.iload_n 1, 1) := by decide +kernel
theorem dX7_init_99 : decode cX7_init 99 = .ok (.iconst 2, 1) := by decide +kernel
theorem dX7_init_100 : decode cX7_init 100 = .ok (.if_icmp .ge 22, 3) := by decide +kernel
theorem dX7_init_103 : decode cX7_init 103 = .ok (.aload_n 0, 1) := by decide +kernel
theorem dX7_init_104 : decode cX7_init 104 = .ok (.getfield 30, 3) := by decide +kernel
theorem dX7_init_107 : decode cX7_init 107 = .ok (.iload_n 1, 1) := by decide +kernel
theorem dX7_init_108 : decode cX7_init 108 = .ok (.new 16, 3) := by decide +kernel
theorem dX7_init_111 : decode cX7_init 111 = .ok (.dup, 1) := by decide +kernel
theorem dX7_init_112 : decode cX7_init 112 = .ok (.invokespecial 18, 3) := by decide +kernel
theorem dX7_init_115 : decode cX7_init 115 = .ok (.aastore, 1) := by decide +kernel
theorem dX7_init_116 : decode cX7_init 116 = .ok (.iinc 1 1, 3) := by decide +kernel
theorem dX7_init_119 : decode cX7_init 119 = .ok (.goto (-21), 3) := by decide +kernel
theorem dX7_init_122 : decode cX7_init 122 = .ok (.return_, 1) := by decide +kernel
theorem dX7_append_0 : decode cX7_append 0 = .ok (.iload_n 1, 1) := by decide +kernel
theorem dX7_append_1 : decode cX7_append 1 = .ok (.iconst 0, 1) := by decide +kernel
theorem dX7_append_2 : decode cX7_append 2 = .ok (.sipush 255, 3) := by decide +kernel
theorem dX7_append_5 : decode cX7_append 5 = .ok (.invokestatic 62, 3) := by decide +kernel
theorem dX7_append_8 : decode cX7_append 8 = .ok (.invokestatic 66, 3) := by decide +kernel
theorem dX7_append_11 : decode cX7_append 11 = .ok (.aload_n 0, 1) := by decide +kernel
theorem dX7_append_12 : decode cX7_append 12 = .ok (.getfield 10, 3) := by decide +kernel
theorem dX7_append_15 : decode cX7_append 15 = .ok (.invokevirtual 70, 3) := by decide +kernel
theorem dX7_append_18 : decode cX7_append 18 = .ok (.ifCond .eq 9, 3) := by decide +kernel
theorem dX7_append_21 : decode cX7_append 21 = .ok (.getstatic 74, 3) := by decide +kernel
theorem dX7_append_24 : decode cX7_append 24 = .ok (.goto 6, 3) := by decide +kernel
theorem dX7_append_27 : decode cX7_append 27 = .ok (.getstatic 80, 3) := by decide +kernel
theorem dX7_append_30 : decode cX7_append 30 = .ok (.invokestatic 66, 3) := by decide +kernel
theorem dX7_append_33 : decode cX7_append 33 = .ok (.aload_n 0, 1) := by decide +kernel
theorem dX7_append_34 : decode cX7_append 34 = .ok (.getfield 10, 3) := by decide +kernel
theorem dX7_append_37 : decode cX7_append 37 = .ok (.iload_n 1, 1) := by decide +kernel
theorem dX7_append_38 : decode cX7_append 38 = .ok (.i2c, 1) := by decide +kernel
theorem dX7_append_39 : decode cX7_append 39 = .ok (.invokevirtual 83, 3) := by decide +kernel
theorem dX7_append_42 : decode cX7_append 42 = .ok (.ireturn, 1) := by decide +kernel
theorem dX7_clearText_0 : decode cX7_clearText 0 = .ok (.aload_n 0, 1) := by decide +kernel
theorem dX7_clearText_1 : decode cX7_clearText 1 = .ok (.getfield 10, 3) := by decide +kernel
theorem dX7_clearText_4 : decode cX7_clearText 4 = .ok (.invokevirtual 87, 3) := by decide +kernel
theorem dX7_clearText_7 : decode cX7_clearText 7 = .ok (.ireturn, 1) := by decide +kernel
theorem dX7_errorPosition_0 : decode cX7_errorPosition 0 = .ok (.aload_n 0, 1) := by decide +kernel
theorem dX7_errorPosition_1 : decode cX7_errorPosition 1 = .ok (.getfield 10, 3) := by decide +kernel
theorem dX7_errorPosition_4 : decode cX7_errorPosition 4 = .ok (.invokevirtual 91, 3) := by decide +kernel
theorem dX7_errorPosition_7 : decode cX7_errorPosition 7 = .ok (.ireturn, 1) := by decide +kernel
theorem dX7_load_0 : decode cX7_load 0 = .ok (.aload_n 0, 1) := by decide +kernel
theorem dX7_load_1 : decode cX7_load 1 = .ok (.getfield 10, 3) := by decide +kernel
theorem dX7_load_4 : decode cX7_load 4 = .ok (.invokevirtual 91, 3) := by decide +kernel
theorem dX7_load_7 : decode cX7_load 7 = .ok (.iconst (-1), 1) := by decide +kernel
theorem dX7_load_8 : decode cX7_load 8 = .ok (.if_icmp .ne 9, 3) := by decide +kernel
theorem dX7_load_11 : decode cX7_load 11 = .ok (.getstatic 80, 3) := by decide +kernel
theorem dX7_load_14 : decode cX7_load 14 = .ok (.goto 6, 3) := by decide +kernel
theorem dX7_load_17 : decode cX7_load 17 = .ok (.getstatic 74, 3) := by decide +kernel
theorem dX7_load_20 : decode cX7_load 20 = .ok (.invokestatic 66, 3) := by decide +kernel
theorem dX7_load_23 : decode cX7_load 23 = .ok (.aload_n 0, 1) := by decide +kernel
theorem dX7_load_24 : decode cX7_load 24 = .ok (.getfield 19, 3) := by decide +kernel
theorem dX7_load_27 : decode cX7_load 27 = .ok (.invokevirtual 94, 3) := by decide +kernel
theorem dX7_load_30 : decode cX7_load 30 = .ok (.aload_n 0, 1) := by decide +kernel
theorem dX7_load_31 : decode cX7_load 31 = .ok (.getfield 26, 3) := by decide +kernel
theorem dX7_load_34 : decode cX7_load 34 = .ok (.invokevirtual 96, 3) := by decide +kernel
theorem dX7_load_37 : decode cX7_load 37 = .ok (.iconst 0, 1) := by decide +kernel
theorem dX7_load_38 : decode cX7_load 38 = .ok (.istore_n 1, 1) := by decide +kernel
theorem dX7_load_39 : decode cX7_load 39 = .ok (.iload_n 1, 1) := by decide +kernel
theorem dX7_load_40 : decode cX7_load 40 = .ok (.iconst 2, 1) := by decide +kernel
theorem dX7_load_41 : decode cX7_load 41 = .ok (.if_icmp .ge 16, 3) := by decide +kernel
theorem dX7_load_44 : decode cX7_load 44 = .ok (.aload_n 0, 1) := by decide +kernel
theorem dX7_load_45 : decode cX7_load 45 = .ok (.getfield 34, 3) := by decide +kernel
theorem dX7_load_48 : decode cX7_load 48 = .ok (.iload_n 1, 1) := by decide +kernel
theorem dX7_load_49 : decode cX7_load 49 = .ok (.iconst 0, 1) := by decide +kernel
theorem dX7_load_50 : decode cX7_load 50 = .ok (.bastore, 1) := by decide +kernel
theorem dX7_load_51 : decode cX7_load 51 = .ok (.iinc 1 1, 3) := by decide +kernel
theorem dX7_load_54 : decode cX7_load 54 = .ok (.goto (-15), 3) := by decide +kernel
theorem dX7_load_57 : decode cX7_load 57 = .ok (.iconst 0, 1) := by decide +kernel
theorem dX7_load_58 : decode cX7_load 58 = .ok (.istore_n 1, 1) := by decide +kernel
theorem dX7_load_59 : decode cX7_load 59 = .ok (.iconst 1, 1) := by decide +kernel
theorem dX7_load_60 : decode cX7_load 60 = .ok (.istore_n 2, 1) := by decide +kernel
theorem dX7_load_61 : decode cX7_load 61 = .ok (.iload_n 2, 1) := by decide +kernel
theorem dX7_load_62 : decode cX7_load 62 = .ok (.aload_n 0, 1) := by decide +kernel
theorem dX7_load_63 : decode cX7_load 63 = .ok (.getfield 10, 3) := by decide +kernel
theorem dX7_load_66 : decode cX7_load 66 = .ok (.invokevirtual 99, 3) := by decide +kernel
theorem dX7_load_69 : decode cX7_load 69 = .ok (.if_icmp .ge 33, 3) := by decide +kernel
theorem dX7_load_72 : decode cX7_load 72 = .ok (.aload_n 0, 1) := by decide +kernel
theorem dX7_load_73 : decode cX7_load 73 = .ok (.iload_n 2, 1) := by decide +kernel
theorem dX7_load_74 : decode cX7_load 74 = .ok (.invokevirtual 102, 3) := by decide +kernel
theorem dX7_load_77 : decode cX7_load 77 = .ok (.ifCond .ne 6, 3) := by decide +kernel
theorem dX7_load_80 : decode cX7_load 80 = .ok (.iinc 1 1, 3) := by decide +kernel
theorem dX7_load_83 : decode cX7_load 83 = .ok (.iload_n 2, 1) := by decide +kernel
theorem dX7_load_84 : decode cX7_load 84 = .ok (.iconst 1, 1) := by decide +kernel
theorem dX7_load_85 : decode cX7_load 85 = .ok (.aload_n 0, 1) := by decide +kernel
theorem dX7_load_86 : decode cX7_load 86 = .ok (.getfield 10, 3) := by decide +kernel
theorem dX7_load_89 : decode cX7_load 89 = .ok (.iload_n 2, 1) := by decide +kernel
theorem dX7_load_90 : decode cX7_load 90 = .ok (.invokevirtual 106, 3) := by decide +kernel
theorem dX7_load_93 : decode cX7_load 93 = .ok (.invokestatic 110, 3) := by decide +kernel
theorem dX7_load_96 : decode cX7_load 96 = .ok (.iadd, 1) := by decide +kernel
theorem dX7_load_97 : decode cX7_load 97 = .ok (.iadd, 1) := by decide +kernel
theorem dX7_load_98 : decode cX7_load 98 = .ok (.istore_n 2, 1) := by decide +kernel
theorem dX7_load_99 : decode cX7_load 99 = .ok (.goto (-38), 3) := by decide +kernel
theorem dX7_load_102 : decode cX7_load 102 = .ok (.iload_n 1, 1) := by decide +kernel
theorem dX7_load_103 : decode cX7_load 103 = .ok (.ireturn, 1) := by decide +kernel
theorem dX7_about_0 : decode cX7_about 0 = .ok (.iload_n 1, 1) := by decide +kernel
theorem dX7_about_1 : decode cX7_about 1 = .ok (.iconst 0, 1) := by decide +kernel
theorem dX7_about_2 : decode cX7_about 2 = .ok (.bipush 8, 2) := by decide +kernel
theorem dX7_about_4 : decode cX7_about 4 = .ok (.invokestatic 62, 3) := by decide +kernel
theorem dX7_about_7 : decode cX7_about 7 = .ok (.invokestatic 66, 3) := by decide +kernel
theorem dX7_about_10 : decode cX7_about 10 = .ok (.iload_n 1, 1) := by decide +kernel
theorem dX7_about_11 : decode cX7_about 11 = .ok (.tableswitch 139 0 7 #[45, 53, 61, 69, 77, 97, 105, 131], 45) := by decide +kernel
theorem dX7_about_56 : decode cX7_about 56 = .ok (.aload_n 0, 1) := by decide +kernel
theorem dX7_about_57 : decode cX7_about 57 = .ok (.getfield 19, 3) := by decide +kernel
theorem dX7_about_60 : decode cX7_about 60 = .ok (.getfield 113, 3) := by decide +kernel
theorem dX7_about_63 : decode cX7_about 63 = .ok (.ireturn, 1) := by decide +kernel
theorem dX7_about_64 : decode cX7_about 64 = .ok (.aload_n 0, 1) := by decide +kernel
theorem dX7_about_65 : decode cX7_about 65 = .ok (.getfield 19, 3) := by decide +kernel
theorem dX7_about_68 : decode cX7_about 68 = .ok (.getfield 117, 3) := by decide +kernel
theorem dX7_about_71 : decode cX7_about 71 = .ok (.ireturn, 1) := by decide +kernel
theorem dX7_about_72 : decode cX7_about 72 = .ok (.aload_n 0, 1) := by decide +kernel
theorem dX7_about_73 : decode cX7_about 73 = .ok (.getfield 19, 3) := by decide +kernel
theorem dX7_about_76 : decode cX7_about 76 = .ok (.invokevirtual 120, 3) := by decide +kernel
theorem dX7_about_79 : decode cX7_about 79 = .ok (.ireturn, 1) := by decide +kernel
theorem dX7_about_80 : decode cX7_about 80 = .ok (.aload_n 0, 1) := by decide +kernel
theorem dX7_about_81 : decode cX7_about 81 = .ok (.getfield 19, 3) := by decide +kernel
theorem dX7_about_84 : decode cX7_about 84 = .ok (.invokevirtual 123, 3) := by decide +kernel
theorem dX7_about_87 : decode cX7_about 87 = .ok (.ireturn, 1) := by decide +kernel
theorem dX7_about_88 : decode cX7_about 88 = .ok (.aload_n 0, 1) := by decide +kernel
theorem dX7_about_89 : decode cX7_about 89 = .ok (.getfield 51, 3) := by decide +kernel
theorem dX7_about_92 : decode cX7_about 92 = .ok (.aload_n 0, 1) := by decide +kernel
theorem dX7_about_93 : decode cX7_about 93 = .ok (.getfield 19, 3) := by decide +kernel
theorem dX7_about_96 : decode cX7_about 96 = .ok (.invokevirtual 126, 3) := by decide +kernel
theorem dX7_about_99 : decode cX7_about 99 = .ok (.ifCond .eq 7, 3) := by decide +kernel
theorem dX7_about_102 : decode cX7_about 102 = .ok (.iconst 1, 1) := by decide +kernel
theorem dX7_about_103 : decode cX7_about 103 = .ok (.goto 4, 3) := by decide +kernel
theorem dX7_about_106 : decode cX7_about 106 = .ok (.iconst 0, 1) := by decide +kernel
theorem dX7_about_107 : decode cX7_about 107 = .ok (.ireturn, 1) := by decide +kernel
theorem dX7_about_108 : decode cX7_about 108 = .ok (.aload_n 0, 1) := by decide +kernel
theorem dX7_about_109 : decode cX7_about 109 = .ok (.getfield 19, 3) := by decide +kernel
theorem dX7_about_112 : decode cX7_about 112 = .ok (.invokevirtual 130, 3) := by decide +kernel
theorem dX7_about_115 : decode cX7_about 115 = .ok (.ireturn, 1) := by decide +kernel
theorem dX7_about_116 : decode cX7_about 116 = .ok (.aload_n 0, 1) := by decide +kernel
theorem dX7_about_117 : decode cX7_about 117 = .ok (.getfield 51, 3) := by decide +kernel
theorem dX7_about_120 : decode cX7_about 120 = .ok (.aload_n 0, 1) := by decide +kernel
theorem dX7_about_121 : decode cX7_about 121 = .ok (.getfield 19, 3) := by decide +kernel
theorem dX7_about_124 : decode cX7_about 124 = .ok (.invokevirtual 126, 3) := by decide +kernel
theorem dX7_about_127 : decode cX7_about 127 = .ok (.ifCond .eq 13, 3) := by decide +kernel
theorem dX7_about_130 : decode cX7_about 130 = .ok (.aload_n 0, 1) := by decide +kernel
theorem dX7_about_131 : decode cX7_about 131 = .ok (.getfield 51, 3) := by decide +kernel
theorem dX7_about_134 : decode cX7_about 134 = .ok (.invokevirtual 133, 3) := by decide +kernel
theorem dX7_about_137 : decode cX7_about 137 = .ok (.goto 4, 3) := by decide +kernel
theorem dX7_about_140 : decode cX7_about 140 = .ok (.iconst (-1), 1) := by decide +kernel
theorem dX7_about_141 : decode cX7_about 141 = .ok (.ireturn, 1) := by decide +kernel
theorem dX7_about_142 : decode cX7_about 142 = .ok (.aload_n 0, 1) := by decide +kernel
theorem dX7_about_143 : decode cX7_about 143 = .ok (.getfield 19, 3) := by decide +kernel
theorem dX7_about_146 : decode cX7_about 146 = .ok (.invokevirtual 136, 3) := by decide +kernel
theorem dX7_about_149 : decode cX7_about 149 = .ok (.ireturn, 1) := by decide +kernel
theorem dX7_about_150 : decode cX7_about 150 = .ok (.aload_n 0, 1) := by decide +kernel
theorem dX7_about_151 : decode cX7_about 151 = .ok (.getfield 19, 3) := by decide +kernel
theorem dX7_about_154 : decode cX7_about 154 = .ok (.invokevirtual 139, 3) := by decide +kernel
theorem dX7_about_157 : decode cX7_about 157 = .ok (.ireturn, 1) := by decide +kernel
theorem dX7_module_0 : decode cX7_module 0 = .ok (.aload_n 0, 1) := by decide +kernel
theorem dX7_module_1 : decode cX7_module 1 = .ok (.getfield 19, 3) := by decide +kernel
theorem dX7_module_4 : decode cX7_module 4 = .ok (.iload_n 1, 1) := by decide +kernel
theorem dX7_module_5 : decode cX7_module 5 = .ok (.invokevirtual 142, 3) := by decide +kernel
theorem dX7_module_8 : decode cX7_module 8 = .ok (.invokestatic 66, 3) := by decide +kernel
theorem dX7_module_11 : decode cX7_module 11 = .ok (.iload_n 2, 1) := by decide +kernel
theorem dX7_module_12 : decode cX7_module 12 = .ok (.iconst 0, 1) := by decide +kernel
theorem dX7_module_13 : decode cX7_module 13 = .ok (.iconst 5, 1) := by decide +kernel
theorem dX7_module_14 : decode cX7_module 14 = .ok (.invokestatic 62, 3) := by decide +kernel
theorem dX7_module_17 : decode cX7_module 17 = .ok (.invokestatic 66, 3) := by decide +kernel
theorem dX7_module_20 : decode cX7_module 20 = .ok (.iload_n 2, 1) := by decide +kernel
theorem dX7_module_21 : decode cX7_module 21 = .ok (.tableswitch 112 0 4 #[35, 45, 55, 65, 93], 35) := by decide +kernel
theorem dX7_module_56 : decode cX7_module 56 = .ok (.aload_n 0, 1) := by decide +kernel
theorem dX7_module_57 : decode cX7_module 57 = .ok (.getfield 19, 3) := by decide +kernel
theorem dX7_module_60 : decode cX7_module 60 = .ok (.getfield 146, 3) := by decide +kernel
theorem dX7_module_63 : decode cX7_module 63 = .ok (.iload_n 1, 1) := by decide +kernel
theorem dX7_module_64 : decode cX7_module 64 = .ok (.iaload, 1) := by decide +kernel
theorem dX7_module_65 : decode cX7_module 65 = .ok (.ireturn, 1) := by decide +kernel
theorem dX7_module_66 : decode cX7_module 66 = .ok (.aload_n 0, 1) := by decide +kernel
theorem dX7_module_67 : decode cX7_module 67 = .ok (.getfield 19, 3) := by decide +kernel
theorem dX7_module_70 : decode cX7_module 70 = .ok (.getfield 150, 3) := by decide +kernel
theorem dX7_module_73 : decode cX7_module 73 = .ok (.iload_n 1, 1) := by decide +kernel
theorem dX7_module_74 : decode cX7_module 74 = .ok (.iaload, 1) := by decide +kernel
theorem dX7_module_75 : decode cX7_module 75 = .ok (.ireturn, 1) := by decide +kernel
theorem dX7_module_76 : decode cX7_module 76 = .ok (.aload_n 0, 1) := by decide +kernel
theorem dX7_module_77 : decode cX7_module 77 = .ok (.getfield 19, 3) := by decide +kernel
theorem dX7_module_80 : decode cX7_module 80 = .ok (.getfield 153, 3) := by decide +kernel
theorem dX7_module_83 : decode cX7_module 83 = .ok (.iload_n 1, 1) := by decide +kernel
theorem dX7_module_84 : decode cX7_module 84 = .ok (.iaload, 1) := by decide +kernel
theorem dX7_module_85 : decode cX7_module 85 = .ok (.ireturn, 1) := by decide +kernel
theorem dX7_module_86 : decode cX7_module 86 = .ok (.aload_n 0, 1) := by decide +kernel
theorem dX7_module_87 : decode cX7_module 87 = .ok (.getfield 51, 3) := by decide +kernel
theorem dX7_module_90 : decode cX7_module 90 = .ok (.aload_n 0, 1) := by decide +kernel
theorem dX7_module_91 : decode cX7_module 91 = .ok (.getfield 19, 3) := by decide +kernel
theorem dX7_module_94 : decode cX7_module 94 = .ok (.invokevirtual 126, 3) := by decide +kernel
theorem dX7_module_97 : decode cX7_module 97 = .ok (.ifCond .eq 15, 3) := by decide +kernel
theorem dX7_module_100 : decode cX7_module 100 = .ok (.aload_n 0, 1) := by decide +kernel
theorem dX7_module_101 : decode cX7_module 101 = .ok (.getfield 51, 3) := by decide +kernel
theorem dX7_module_104 : decode cX7_module 104 = .ok (.getfield 156, 3) := by decide +kernel
theorem dX7_module_107 : decode cX7_module 107 = .ok (.iload_n 1, 1) := by decide +kernel
theorem dX7_module_108 : decode cX7_module 108 = .ok (.iaload, 1) := by decide +kernel
theorem dX7_module_109 : decode cX7_module 109 = .ok (.goto 4, 3) := by decide +kernel
theorem dX7_module_112 : decode cX7_module 112 = .ok (.iconst (-1), 1) := by decide +kernel
theorem dX7_module_113 : decode cX7_module 113 = .ok (.ireturn, 1) := by decide +kernel
theorem dX7_module_114 : decode cX7_module 114 = .ok (.aload_n 0, 1) := by decide +kernel
theorem dX7_module_115 : decode cX7_module 115 = .ok (.getfield 19, 3) := by decide +kernel
theorem dX7_module_118 : decode cX7_module 118 = .ok (.getfield 159, 3) := by decide +kernel
theorem dX7_module_121 : decode cX7_module 121 = .ok (.aload_n 0, 1) := by decide +kernel
theorem dX7_module_122 : decode cX7_module 122 = .ok (.getfield 19, 3) := by decide +kernel
theorem dX7_module_125 : decode cX7_module 125 = .ok (.getfield 117, 3) := by decide +kernel
theorem dX7_module_128 : decode cX7_module 128 = .ok (.iload_n 1, 1) := by decide +kernel
theorem dX7_module_129 : decode cX7_module 129 = .ok (.invokestatic 162, 3) := by decide +kernel
theorem dX7_module_132 : decode cX7_module 132 = .ok (.ireturn, 1) := by decide +kernel
theorem dX7_module_133 : decode cX7_module 133 = .ok (.aload_n 0, 1) := by decide +kernel
theorem dX7_module_134 : decode cX7_module 134 = .ok (.getfield 19, 3) := by decide +kernel
theorem dX7_module_137 : decode cX7_module 137 = .ok (.getfield 166, 3) := by decide +kernel
theorem dX7_module_140 : decode cX7_module 140 = .ok (.aload_n 0, 1) := by decide +kernel
theorem dX7_module_141 : decode cX7_module 141 = .ok (.getfield 19, 3) := by decide +kernel
theorem dX7_module_144 : decode cX7_module 144 = .ok (.getfield 117, 3) := by decide +kernel
theorem dX7_module_147 : decode cX7_module 147 = .ok (.iload_n 1, 1) := by decide +kernel
theorem dX7_module_148 : decode cX7_module 148 = .ok (.invokestatic 162, 3) := by decide +kernel
theorem dX7_module_151 : decode cX7_module 151 = .ok (.ireturn, 1) := by decide +kernel
theorem dX7_wire_0 : decode cX7_wire 0 = .ok (.aload_n 0, 1) := by decide +kernel
theorem dX7_wire_1 : decode cX7_wire 1 = .ok (.getfield 19, 3) := by decide +kernel
theorem dX7_wire_4 : decode cX7_wire 4 = .ok (.iload_n 1, 1) := by decide +kernel
theorem dX7_wire_5 : decode cX7_wire 5 = .ok (.invokevirtual 169, 3) := by decide +kernel
theorem dX7_wire_8 : decode cX7_wire 8 = .ok (.invokestatic 66, 3) := by decide +kernel
theorem dX7_wire_11 : decode cX7_wire 11 = .ok (.iload_n 2, 1) := by decide +kernel
theorem dX7_wire_12 : decode cX7_wire 12 = .ok (.iconst 0, 1) := by decide +kernel
theorem dX7_wire_13 : decode cX7_wire 13 = .ok (.iconst 4, 1) := by decide +kernel
theorem dX7_wire_14 : decode cX7_wire 14 = .ok (.invokestatic 62, 3) := by decide +kernel
theorem dX7_wire_17 : decode cX7_wire 17 = .ok (.invokestatic 66, 3) := by decide +kernel
theorem dX7_wire_20 : decode cX7_wire 20 = .ok (.iload_n 2, 1) := by decide +kernel
theorem dX7_wire_21 : decode cX7_wire 21 = .ok (.tableswitch 71 0 3 #[31, 41, 51, 61], 31) := by decide +kernel
theorem dX7_wire_52 : decode cX7_wire 52 = .ok (.aload_n 0, 1) := by decide +kernel
theorem dX7_wire_53 : decode cX7_wire 53 = .ok (.getfield 19, 3) := by decide +kernel
theorem dX7_wire_56 : decode cX7_wire 56 = .ok (.getfield 166, 3) := by decide +kernel
theorem dX7_wire_59 : decode cX7_wire 59 = .ok (.iload_n 1, 1) := by decide +kernel
theorem dX7_wire_60 : decode cX7_wire 60 = .ok (.iaload, 1) := by decide +kernel
theorem dX7_wire_61 : decode cX7_wire 61 = .ok (.ireturn, 1) := by decide +kernel
theorem dX7_wire_62 : decode cX7_wire 62 = .ok (.aload_n 0, 1) := by decide +kernel
theorem dX7_wire_63 : decode cX7_wire 63 = .ok (.getfield 19, 3) := by decide +kernel
theorem dX7_wire_66 : decode cX7_wire 66 = .ok (.getfield 159, 3) := by decide +kernel
theorem dX7_wire_69 : decode cX7_wire 69 = .ok (.iload_n 1, 1) := by decide +kernel
theorem dX7_wire_70 : decode cX7_wire 70 = .ok (.iaload, 1) := by decide +kernel
theorem dX7_wire_71 : decode cX7_wire 71 = .ok (.ireturn, 1) := by decide +kernel
theorem dX7_wire_72 : decode cX7_wire 72 = .ok (.aload_n 0, 1) := by decide +kernel
theorem dX7_wire_73 : decode cX7_wire 73 = .ok (.getfield 19, 3) := by decide +kernel
theorem dX7_wire_76 : decode cX7_wire 76 = .ok (.getfield 172, 3) := by decide +kernel
theorem dX7_wire_79 : decode cX7_wire 79 = .ok (.iload_n 1, 1) := by decide +kernel
theorem dX7_wire_80 : decode cX7_wire 80 = .ok (.iaload, 1) := by decide +kernel
theorem dX7_wire_81 : decode cX7_wire 81 = .ok (.ireturn, 1) := by decide +kernel
theorem dX7_wire_82 : decode cX7_wire 82 = .ok (.aload_n 0, 1) := by decide +kernel
theorem dX7_wire_83 : decode cX7_wire 83 = .ok (.getfield 19, 3) := by decide +kernel
theorem dX7_wire_86 : decode cX7_wire 86 = .ok (.getfield 175, 3) := by decide +kernel
theorem dX7_wire_89 : decode cX7_wire 89 = .ok (.iload_n 1, 1) := by decide +kernel
theorem dX7_wire_90 : decode cX7_wire 90 = .ok (.iaload, 1) := by decide +kernel
theorem dX7_wire_91 : decode cX7_wire 91 = .ok (.ireturn, 1) := by decide +kernel
theorem dX7_wire_92 : decode cX7_wire 92 = .ok (.aload_n 0, 1) := by decide +kernel
theorem dX7_wire_93 : decode cX7_wire 93 = .ok (.getfield 19, 3) := by decide +kernel
theorem dX7_wire_96 : decode cX7_wire 96 = .ok (.getfield 178, 3) := by decide +kernel
theorem dX7_wire_99 : decode cX7_wire 99 = .ok (.iload_n 1, 1) := by decide +kernel
theorem dX7_wire_100 : decode cX7_wire 100 = .ok (.iaload, 1) := by decide +kernel
theorem dX7_wire_101 : decode cX7_wire 101 = .ok (.ireturn, 1) := by decide +kernel
theorem dX7_between_0 : decode cX7_between 0 = .ok (.aload_n 0, 1) := by decide +kernel
theorem dX7_between_1 : decode cX7_between 1 = .ok (.getfield 19, 3) := by decide +kernel
theorem dX7_between_4 : decode cX7_between 4 = .ok (.iload_n 1, 1) := by decide +kernel
theorem dX7_between_5 : decode cX7_between 5 = .ok (.invokevirtual 142, 3) := by decide +kernel
theorem dX7_between_8 : decode cX7_between 8 = .ok (.invokestatic 66, 3) := by decide +kernel
theorem dX7_between_11 : decode cX7_between 11 = .ok (.aload_n 0, 1) := by decide +kernel
theorem dX7_between_12 : decode cX7_between 12 = .ok (.getfield 19, 3) := by decide +kernel
theorem dX7_between_15 : decode cX7_between 15 = .ok (.iload_n 2, 1) := by decide +kernel
theorem dX7_between_16 : decode cX7_between 16 = .ok (.invokevirtual 142, 3) := by decide +kernel
theorem dX7_between_19 : decode cX7_between 19 = .ok (.invokestatic 66, 3) := by decide +kernel
theorem dX7_between_22 : decode cX7_between 22 = .ok (.aload_n 0, 1) := by decide +kernel
theorem dX7_between_23 : decode cX7_between 23 = .ok (.getfield 58, 3) := by decide +kernel
theorem dX7_between_26 : decode cX7_between 26 = .ok (.aload_n 0, 1) := by decide +kernel
theorem dX7_between_27 : decode cX7_between 27 = .ok (.getfield 19, 3) := by decide +kernel
theorem dX7_between_30 : decode cX7_between 30 = .ok (.iload_n 1, 1) := by decide +kernel
theorem dX7_between_31 : decode cX7_between 31 = .ok (.iload_n 2, 1) := by decide +kernel
theorem dX7_between_32 : decode cX7_between 32 = .ok (.invokevirtual 181, 3) := by decide +kernel
theorem dX7_between_35 : decode cX7_between 35 = .ok (.ireturn, 1) := by decide +kernel
theorem dX7_addModule_0 : decode cX7_addModule 0 = .ok (.aload_n 0, 1) := by decide +kernel
theorem dX7_addModule_1 : decode cX7_addModule 1 = .ok (.getfield 19, 3) := by decide +kernel
theorem dX7_addModule_4 : decode cX7_addModule 4 = .ok (.iload_n 1, 1) := by decide +kernel
theorem dX7_addModule_5 : decode cX7_addModule 5 = .ok (.iload_n 2, 1) := by decide +kernel
theorem dX7_addModule_6 : decode cX7_addModule 6 = .ok (.invokevirtual 185, 3) := by decide +kernel
theorem dX7_addModule_9 : decode cX7_addModule 9 = .ok (.invokestatic 66, 3) := by decide +kernel
theorem dX7_addModule_12 : decode cX7_addModule 12 = .ok (.aload_n 0, 1) := by decide +kernel
theorem dX7_addModule_13 : decode cX7_addModule 13 = .ok (.getfield 26, 3) := by decide +kernel
theorem dX7_addModule_16 : decode cX7_addModule 16 = .ok (.aload_n 0, 1) := by decide +kernel
theorem dX7_addModule_17 : decode cX7_addModule 17 = .ok (.getfield 19, 3) := by decide +kernel
theorem dX7_addModule_20 : decode cX7_addModule 20 = .ok (.invokevirtual 189, 3) := by decide +kernel
theorem dX7_addModule_23 : decode cX7_addModule 23 = .ok (.aload_n 0, 1) := by decide +kernel
theorem dX7_addModule_24 : decode cX7_addModule 24 = .ok (.getfield 19, 3) := by decide +kernel
theorem dX7_addModule_27 : decode cX7_addModule 27 = .ok (.iload_n 1, 1) := by decide +kernel
theorem dX7_addModule_28 : decode cX7_addModule 28 = .ok (.iload_n 2, 1) := by decide +kernel
theorem dX7_addModule_29 : decode cX7_addModule 29 = .ok (.invokevirtual 193, 3) := by decide +kernel
theorem dX7_addModule_32 : decode cX7_addModule 32 = .ok (.ireturn, 1) := by decide +kernel
theorem dX7_lay_0 : decode cX7_lay 0 = .ok (.aload_n 0, 1) := by decide +kernel
theorem dX7_lay_1 : decode cX7_lay 1 = .ok (.getfield 19, 3) := by decide +kernel
theorem dX7_lay_4 : decode cX7_lay 4 = .ok (.iload_n 1, 1) := by decide +kernel
theorem dX7_lay_5 : decode cX7_lay 5 = .ok (.iload_n 2, 1) := by decide +kernel
theorem dX7_lay_6 : decode cX7_lay 6 = .ok (.iload_n 3, 1) := by decide +kernel
theorem dX7_lay_7 : decode cX7_lay 7 = .ok (.iload 4, 2) := by decide +kernel
theorem dX7_lay_9 : decode cX7_lay 9 = .ok (.iload 5, 2) := by decide +kernel
theorem dX7_lay_11 : decode cX7_lay 11 = .ok (.invokevirtual 197, 3) := by decide +kernel
theorem dX7_lay_14 : decode cX7_lay 14 = .ok (.invokestatic 66, 3) := by decide +kernel
theorem dX7_lay_17 : decode cX7_lay 17 = .ok (.aload_n 0, 1) := by decide +kernel
theorem dX7_lay_18 : decode cX7_lay 18 = .ok (.getfield 26, 3) := by decide +kernel
theorem dX7_lay_21 : decode cX7_lay 21 = .ok (.aload_n 0, 1) := by decide +kernel
theorem dX7_lay_22 : decode cX7_lay 22 = .ok (.getfield 19, 3) := by decide +kernel
theorem dX7_lay_25 : decode cX7_lay 25 = .ok (.invokevirtual 189, 3) := by decide +kernel
theorem dX7_lay_28 : decode cX7_lay 28 = .ok (.aload_n 0, 1) := by decide +kernel
theorem dX7_lay_29 : decode cX7_lay 29 = .ok (.getfield 19, 3) := by decide +kernel
theorem dX7_lay_32 : decode cX7_lay 32 = .ok (.iload_n 1, 1) := by decide +kernel
theorem dX7_lay_33 : decode cX7_lay 33 = .ok (.iload_n 2, 1) := by decide +kernel
theorem dX7_lay_34 : decode cX7_lay 34 = .ok (.iload_n 3, 1) := by decide +kernel
theorem dX7_lay_35 : decode cX7_lay 35 = .ok (.iload 4, 2) := by decide +kernel
theorem dX7_lay_37 : decode cX7_lay 37 = .ok (.iload 5, 2) := by decide +kernel
theorem dX7_lay_39 : decode cX7_lay 39 = .ok (.invokevirtual 201, 3) := by decide +kernel
theorem dX7_lay_42 : decode cX7_lay 42 = .ok (.ireturn, 1) := by decide +kernel
theorem dX7_cut_0 : decode cX7_cut 0 = .ok (.aload_n 0, 1) := by decide +kernel
theorem dX7_cut_1 : decode cX7_cut 1 = .ok (.getfield 19, 3) := by decide +kernel
theorem dX7_cut_4 : decode cX7_cut 4 = .ok (.iload_n 1, 1) := by decide +kernel
theorem dX7_cut_5 : decode cX7_cut 5 = .ok (.invokevirtual 169, 3) := by decide +kernel
theorem dX7_cut_8 : decode cX7_cut 8 = .ok (.invokestatic 66, 3) := by decide +kernel
theorem dX7_cut_11 : decode cX7_cut 11 = .ok (.aload_n 0, 1) := by decide +kernel
theorem dX7_cut_12 : decode cX7_cut 12 = .ok (.getfield 26, 3) := by decide +kernel
theorem dX7_cut_15 : decode cX7_cut 15 = .ok (.aload_n 0, 1) := by decide +kernel
theorem dX7_cut_16 : decode cX7_cut 16 = .ok (.getfield 19, 3) := by decide +kernel
theorem dX7_cut_19 : decode cX7_cut 19 = .ok (.invokevirtual 189, 3) := by decide +kernel
theorem dX7_cut_22 : decode cX7_cut 22 = .ok (.aload_n 0, 1) := by decide +kernel
theorem dX7_cut_23 : decode cX7_cut 23 = .ok (.getfield 19, 3) := by decide +kernel
theorem dX7_cut_26 : decode cX7_cut 26 = .ok (.iload_n 1, 1) := by decide +kernel
theorem dX7_cut_27 : decode cX7_cut 27 = .ok (.invokevirtual 205, 3) := by decide +kernel
theorem dX7_cut_30 : decode cX7_cut 30 = .ok (.ireturn, 1) := by decide +kernel
theorem dX7_put_0 : decode cX7_put 0 = .ok (.aload_n 0, 1) := by decide +kernel
theorem dX7_put_1 : decode cX7_put 1 = .ok (.getfield 19, 3) := by decide +kernel
theorem dX7_put_4 : decode cX7_put 4 = .ok (.iload_n 1, 1) := by decide +kernel
theorem dX7_put_5 : decode cX7_put 5 = .ok (.iload_n 2, 1) := by decide +kernel
theorem dX7_put_6 : decode cX7_put 6 = .ok (.invokevirtual 209, 3) := by decide +kernel
theorem dX7_put_9 : decode cX7_put 9 = .ok (.invokestatic 66, 3) := by decide +kernel
theorem dX7_put_12 : decode cX7_put 12 = .ok (.aload_n 0, 1) := by decide +kernel
theorem dX7_put_13 : decode cX7_put 13 = .ok (.getfield 26, 3) := by decide +kernel
theorem dX7_put_16 : decode cX7_put 16 = .ok (.aload_n 0, 1) := by decide +kernel
theorem dX7_put_17 : decode cX7_put 17 = .ok (.getfield 19, 3) := by decide +kernel
theorem dX7_put_20 : decode cX7_put 20 = .ok (.invokevirtual 189, 3) := by decide +kernel
theorem dX7_put_23 : decode cX7_put 23 = .ok (.aload_n 0, 1) := by decide +kernel
theorem dX7_put_24 : decode cX7_put 24 = .ok (.getfield 19, 3) := by decide +kernel
theorem dX7_put_27 : decode cX7_put 27 = .ok (.iload_n 1, 1) := by decide +kernel
theorem dX7_put_28 : decode cX7_put 28 = .ok (.iload_n 2, 1) := by decide +kernel
theorem dX7_put_29 : decode cX7_put 29 = .ok (.invokevirtual 212, 3) := by decide +kernel
theorem dX7_put_32 : decode cX7_put 32 = .ok (.ireturn, 1) := by decide +kernel
theorem dX7_work_0 : decode cX7_work 0 = .ok (.aload_n 0, 1) := by decide +kernel
theorem dX7_work_1 : decode cX7_work 1 = .ok (.getfield 19, 3) := by decide +kernel
theorem dX7_work_4 : decode cX7_work 4 = .ok (.iload_n 1, 1) := by decide +kernel
theorem dX7_work_5 : decode cX7_work 5 = .ok (.invokevirtual 215, 3) := by decide +kernel
theorem dX7_work_8 : decode cX7_work 8 = .ok (.invokestatic 66, 3) := by decide +kernel
theorem dX7_work_11 : decode cX7_work 11 = .ok (.aload_n 0, 1) := by decide +kernel
theorem dX7_work_12 : decode cX7_work 12 = .ok (.getfield 26, 3) := by decide +kernel
theorem dX7_work_15 : decode cX7_work 15 = .ok (.aload_n 0, 1) := by decide +kernel
theorem dX7_work_16 : decode cX7_work 16 = .ok (.getfield 19, 3) := by decide +kernel
theorem dX7_work_19 : decode cX7_work 19 = .ok (.invokevirtual 189, 3) := by decide +kernel
theorem dX7_work_22 : decode cX7_work 22 = .ok (.aload_n 0, 1) := by decide +kernel
theorem dX7_work_23 : decode cX7_work 23 = .ok (.getfield 19, 3) := by decide +kernel
theorem dX7_work_26 : decode cX7_work 26 = .ok (.iload_n 1, 1) := by decide +kernel
theorem dX7_work_27 : decode cX7_work 27 = .ok (.invokevirtual 218, 3) := by decide +kernel
theorem dX7_work_30 : decode cX7_work 30 = .ok (.aload_n 0, 1) := by decide +kernel
theorem dX7_work_31 : decode cX7_work 31 = .ok (.getfield 19, 3) := by decide +kernel
theorem dX7_work_34 : decode cX7_work 34 = .ok (.invokevirtual 120, 3) := by decide +kernel
theorem dX7_work_37 : decode cX7_work 37 = .ok (.ireturn, 1) := by decide +kernel
theorem dX7_round_0 : decode cX7_round 0 = .ok (.iload_n 1, 1) := by decide +kernel
theorem dX7_round_1 : decode cX7_round 1 = .ok (.invokestatic 222, 3) := by decide +kernel
theorem dX7_round_4 : decode cX7_round 4 = .ok (.invokestatic 66, 3) := by decide +kernel
theorem dX7_round_7 : decode cX7_round 7 = .ok (.aload_n 0, 1) := by decide +kernel
theorem dX7_round_8 : decode cX7_round 8 = .ok (.getfield 44, 3) := by decide +kernel
theorem dX7_round_11 : decode cX7_round 11 = .ok (.aload_n 0, 1) := by decide +kernel
theorem dX7_round_12 : decode cX7_round 12 = .ok (.getfield 19, 3) := by decide +kernel
theorem dX7_round_15 : decode cX7_round 15 = .ok (.iload_n 1, 1) := by decide +kernel
theorem dX7_round_16 : decode cX7_round 16 = .ok (.invokevirtual 225, 3) := by decide +kernel
theorem dX7_round_19 : decode cX7_round 19 = .ok (.aload_n 0, 1) := by decide +kernel
theorem dX7_round_20 : decode cX7_round 20 = .ok (.getfield 44, 3) := by decide +kernel
theorem dX7_round_23 : decode cX7_round 23 = .ok (.invokevirtual 229, 3) := by decide +kernel
theorem dX7_round_26 : decode cX7_round 26 = .ok (.ifCond .eq 9, 3) := by decide +kernel
theorem dX7_round_29 : decode cX7_round 29 = .ok (.getstatic 80, 3) := by decide +kernel
theorem dX7_round_32 : decode cX7_round 32 = .ok (.goto 6, 3) := by decide +kernel
theorem dX7_round_35 : decode cX7_round 35 = .ok (.getstatic 74, 3) := by decide +kernel
theorem dX7_round_38 : decode cX7_round 38 = .ok (.invokestatic 66, 3) := by decide +kernel
theorem dX7_round_41 : decode cX7_round 41 = .ok (.aload_n 0, 1) := by decide +kernel
theorem dX7_round_42 : decode cX7_round 42 = .ok (.getfield 26, 3) := by decide +kernel
theorem dX7_round_45 : decode cX7_round 45 = .ok (.aload_n 0, 1) := by decide +kernel
theorem dX7_round_46 : decode cX7_round 46 = .ok (.getfield 19, 3) := by decide +kernel
theorem dX7_round_49 : decode cX7_round 49 = .ok (.invokevirtual 189, 3) := by decide +kernel
theorem dX7_round_52 : decode cX7_round 52 = .ok (.aload_n 0, 1) := by decide +kernel
theorem dX7_round_53 : decode cX7_round 53 = .ok (.getfield 44, 3) := by decide +kernel
theorem dX7_round_56 : decode cX7_round 56 = .ok (.aload_n 0, 1) := by decide +kernel
theorem dX7_round_57 : decode cX7_round 57 = .ok (.getfield 19, 3) := by decide +kernel
theorem dX7_round_60 : decode cX7_round 60 = .ok (.invokevirtual 232, 3) := by decide +kernel
theorem dX7_round_63 : decode cX7_round 63 = .ok (.ireturn, 1) := by decide +kernel
theorem dX7_undo_0 : decode cX7_undo 0 = .ok (.aload_n 0, 1) := by decide +kernel
theorem dX7_undo_1 : decode cX7_undo 1 = .ok (.getfield 26, 3) := by decide +kernel
theorem dX7_undo_4 : decode cX7_undo 4 = .ok (.invokevirtual 236, 3) := by decide +kernel
theorem dX7_undo_7 : decode cX7_undo 7 = .ok (.ifCond .eq 9, 3) := by decide +kernel
theorem dX7_undo_10 : decode cX7_undo 10 = .ok (.getstatic 74, 3) := by decide +kernel
theorem dX7_undo_13 : decode cX7_undo 13 = .ok (.goto 6, 3) := by decide +kernel
theorem dX7_undo_16 : decode cX7_undo 16 = .ok (.getstatic 80, 3) := by decide +kernel
theorem dX7_undo_19 : decode cX7_undo 19 = .ok (.invokestatic 66, 3) := by decide +kernel
theorem dX7_undo_22 : decode cX7_undo 22 = .ok (.aload_n 0, 1) := by decide +kernel
theorem dX7_undo_23 : decode cX7_undo 23 = .ok (.getfield 26, 3) := by decide +kernel
theorem dX7_undo_26 : decode cX7_undo 26 = .ok (.aload_n 0, 1) := by decide +kernel
theorem dX7_undo_27 : decode cX7_undo 27 = .ok (.getfield 19, 3) := by decide +kernel
theorem dX7_undo_30 : decode cX7_undo 30 = .ok (.invokevirtual 239, 3) := by decide +kernel
theorem dX7_undo_33 : decode cX7_undo 33 = .ok (.ireturn, 1) := by decide +kernel
theorem dX7_order_0 : decode cX7_order 0 = .ok (.iload_n 1, 1) := by decide +kernel
theorem dX7_order_1 : decode cX7_order 1 = .ok (.invokestatic 222, 3) := by decide +kernel
theorem dX7_order_4 : decode cX7_order 4 = .ok (.invokestatic 66, 3) := by decide +kernel
theorem dX7_order_7 : decode cX7_order 7 = .ok (.iload_n 2, 1) := by decide +kernel
theorem dX7_order_8 : decode cX7_order 8 = .ok (.ifCond .ge 9, 3) := by decide +kernel
theorem dX7_order_11 : decode cX7_order 11 = .ok (.getstatic 242, 3) := by decide +kernel
theorem dX7_order_14 : decode cX7_order 14 = .ok (.goto 6, 3) := by decide +kernel
theorem dX7_order_17 : decode cX7_order 17 = .ok (.getstatic 80, 3) := by decide +kernel
theorem dX7_order_20 : decode cX7_order 20 = .ok (.invokestatic 66, 3) := by decide +kernel
theorem dX7_order_23 : decode cX7_order 23 = .ok (.aload_n 0, 1) := by decide +kernel
theorem dX7_order_24 : decode cX7_order 24 = .ok (.getfield 44, 3) := by decide +kernel
theorem dX7_order_27 : decode cX7_order 27 = .ok (.aload_n 0, 1) := by decide +kernel
theorem dX7_order_28 : decode cX7_order 28 = .ok (.getfield 19, 3) := by decide +kernel
theorem dX7_order_31 : decode cX7_order 31 = .ok (.iload_n 1, 1) := by decide +kernel
theorem dX7_order_32 : decode cX7_order 32 = .ok (.invokevirtual 225, 3) := by decide +kernel
theorem dX7_order_35 : decode cX7_order 35 = .ok (.aload_n 0, 1) := by decide +kernel
theorem dX7_order_36 : decode cX7_order 36 = .ok (.getfield 44, 3) := by decide +kernel
theorem dX7_order_39 : decode cX7_order 39 = .ok (.iload_n 2, 1) := by decide +kernel
theorem dX7_order_40 : decode cX7_order 40 = .ok (.invokevirtual 245, 3) := by decide +kernel
theorem dX7_order_43 : decode cX7_order 43 = .ok (.ireturn, 1) := by decide +kernel
theorem dX7_sticks_0 : decode cX7_sticks 0 = .ok (.iload_n 1, 1) := by decide +kernel
theorem dX7_sticks_1 : decode cX7_sticks 1 = .ok (.invokestatic 222, 3) := by decide +kernel
theorem dX7_sticks_4 : decode cX7_sticks 4 = .ok (.invokestatic 66, 3) := by decide +kernel
theorem dX7_sticks_7 : decode cX7_sticks 7 = .ok (.aload_n 0, 1) := by decide +kernel
theorem dX7_sticks_8 : decode cX7_sticks 8 = .ok (.getfield 44, 3) := by decide +kernel
theorem dX7_sticks_11 : decode cX7_sticks 11 = .ok (.aload_n 0, 1) := by decide +kernel
theorem dX7_sticks_12 : decode cX7_sticks 12 = .ok (.getfield 19, 3) := by decide +kernel
theorem dX7_sticks_15 : decode cX7_sticks 15 = .ok (.iload_n 1, 1) := by decide +kernel
theorem dX7_sticks_16 : decode cX7_sticks 16 = .ok (.invokevirtual 225, 3) := by decide +kernel
theorem dX7_sticks_19 : decode cX7_sticks 19 = .ok (.aload_n 0, 1) := by decide +kernel
theorem dX7_sticks_20 : decode cX7_sticks 20 = .ok (.getfield 44, 3) := by decide +kernel
theorem dX7_sticks_23 : decode cX7_sticks 23 = .ok (.getfield 248, 3) := by decide +kernel
theorem dX7_sticks_26 : decode cX7_sticks 26 = .ok (.ifCond .eq 23, 3) := by decide +kernel
theorem dX7_sticks_29 : decode cX7_sticks 29 = .ok (.aload_n 0, 1) := by decide +kernel
theorem dX7_sticks_30 : decode cX7_sticks 30 = .ok (.getfield 44, 3) := by decide +kernel
theorem dX7_sticks_33 : decode cX7_sticks 33 = .ok (.invokevirtual 229, 3) := by decide +kernel
theorem dX7_sticks_36 : decode cX7_sticks 36 = .ok (.ifCond .ne 13, 3) := by decide +kernel
theorem dX7_sticks_39 : decode cX7_sticks 39 = .ok (.aload_n 0, 1) := by decide +kernel
theorem dX7_sticks_40 : decode cX7_sticks 40 = .ok (.getfield 44, 3) := by decide +kernel
theorem dX7_sticks_43 : decode cX7_sticks 43 = .ok (.getfield 252, 3) := by decide +kernel
theorem dX7_sticks_46 : decode cX7_sticks 46 = .ok (.goto 4, 3) := by decide +kernel
theorem dX7_sticks_49 : decode cX7_sticks 49 = .ok (.iconst (-1), 1) := by decide +kernel
theorem dX7_sticks_50 : decode cX7_sticks 50 = .ok (.ireturn, 1) := by decide +kernel
theorem dX7_holds_0 : decode cX7_holds 0 = .ok (.aload_n 0, 1) := by decide +kernel
theorem dX7_holds_1 : decode cX7_holds 1 = .ok (.getfield 19, 3) := by decide +kernel
theorem dX7_holds_4 : decode cX7_holds 4 = .ok (.iload_n 1, 1) := by decide +kernel
theorem dX7_holds_5 : decode cX7_holds 5 = .ok (.invokevirtual 169, 3) := by decide +kernel
theorem dX7_holds_8 : decode cX7_holds 8 = .ok (.invokestatic 66, 3) := by decide +kernel
theorem dX7_holds_11 : decode cX7_holds 11 = .ok (.iload_n 2, 1) := by decide +kernel
theorem dX7_holds_12 : decode cX7_holds 12 = .ok (.invokestatic 222, 3) := by decide +kernel
theorem dX7_holds_15 : decode cX7_holds 15 = .ok (.invokestatic 66, 3) := by decide +kernel
theorem dX7_holds_18 : decode cX7_holds 18 = .ok (.aload_n 0, 1) := by decide +kernel
theorem dX7_holds_19 : decode cX7_holds 19 = .ok (.getfield 44, 3) := by decide +kernel
theorem dX7_holds_22 : decode cX7_holds 22 = .ok (.aload_n 0, 1) := by decide +kernel
theorem dX7_holds_23 : decode cX7_holds 23 = .ok (.getfield 19, 3) := by decide +kernel
theorem dX7_holds_26 : decode cX7_holds 26 = .ok (.iload_n 2, 1) := by decide +kernel
theorem dX7_holds_27 : decode cX7_holds 27 = .ok (.invokevirtual 225, 3) := by decide +kernel
theorem dX7_holds_30 : decode cX7_holds 30 = .ok (.aload_n 0, 1) := by decide +kernel
theorem dX7_holds_31 : decode cX7_holds 31 = .ok (.getfield 44, 3) := by decide +kernel
theorem dX7_holds_34 : decode cX7_holds 34 = .ok (.getfield 248, 3) := by decide +kernel
theorem dX7_holds_37 : decode cX7_holds 37 = .ok (.ifCond .eq 15, 3) := by decide +kernel
theorem dX7_holds_40 : decode cX7_holds 40 = .ok (.aload_n 0, 1) := by decide +kernel
theorem dX7_holds_41 : decode cX7_holds 41 = .ok (.getfield 44, 3) := by decide +kernel
theorem dX7_holds_44 : decode cX7_holds 44 = .ok (.getfield 255, 3) := by decide +kernel
theorem dX7_holds_47 : decode cX7_holds 47 = .ok (.iload_n 1, 1) := by decide +kernel
theorem dX7_holds_48 : decode cX7_holds 48 = .ok (.iaload, 1) := by decide +kernel
theorem dX7_holds_49 : decode cX7_holds 49 = .ok (.goto 4, 3) := by decide +kernel
theorem dX7_holds_52 : decode cX7_holds 52 = .ok (.iconst (-1), 1) := by decide +kernel
theorem dX7_holds_53 : decode cX7_holds 53 = .ok (.ireturn, 1) := by decide +kernel
theorem dX7_bestRule_0 : decode cX7_bestRule 0 = .ok (.iconst (-1), 1) := by decide +kernel
theorem dX7_bestRule_1 : decode cX7_bestRule 1 = .ok (.istore_n 1, 1) := by decide +kernel
theorem dX7_bestRule_2 : decode cX7_bestRule 2 = .ok (.iconst 0, 1) := by decide +kernel
theorem dX7_bestRule_3 : decode cX7_bestRule 3 = .ok (.istore_n 2, 1) := by decide +kernel
theorem dX7_bestRule_4 : decode cX7_bestRule 4 = .ok (.iconst 0, 1) := by decide +kernel
theorem dX7_bestRule_5 : decode cX7_bestRule 5 = .ok (.istore_n 3, 1) := by decide +kernel
theorem dX7_bestRule_6 : decode cX7_bestRule 6 = .ok (.iload_n 3, 1) := by decide +kernel
theorem dX7_bestRule_7 : decode cX7_bestRule 7 = .ok (.iconst 3, 1) := by decide +kernel
theorem dX7_bestRule_8 : decode cX7_bestRule 8 = .ok (.if_icmp .ge 57, 3) := by decide +kernel
theorem dX7_bestRule_11 : decode cX7_bestRule 11 = .ok (.aload_n 0, 1) := by decide +kernel
theorem dX7_bestRule_12 : decode cX7_bestRule 12 = .ok (.getfield 44, 3) := by decide +kernel
theorem dX7_bestRule_15 : decode cX7_bestRule 15 = .ok (.aload_n 0, 1) := by decide +kernel
theorem dX7_bestRule_16 : decode cX7_bestRule 16 = .ok (.getfield 19, 3) := by decide +kernel
theorem dX7_bestRule_19 : decode cX7_bestRule 19 = .ok (.iload_n 3, 1) := by decide +kernel
theorem dX7_bestRule_20 : decode cX7_bestRule 20 = .ok (.invokevirtual 225, 3) := by decide +kernel
theorem dX7_bestRule_23 : decode cX7_bestRule 23 = .ok (.aload_n 0, 1) := by decide +kernel
theorem dX7_bestRule_24 : decode cX7_bestRule 24 = .ok (.getfield 44, 3) := by decide +kernel
theorem dX7_bestRule_27 : decode cX7_bestRule 27 = .ok (.invokevirtual 229, 3) := by decide +kernel
theorem dX7_bestRule_30 : decode cX7_bestRule 30 = .ok (.ifCond .eq 29, 3) := by decide +kernel
theorem dX7_bestRule_33 : decode cX7_bestRule 33 = .ok (.iload_n 1, 1) := by decide +kernel
theorem dX7_bestRule_34 : decode cX7_bestRule 34 = .ok (.iconst (-1), 1) := by decide +kernel
theorem dX7_bestRule_35 : decode cX7_bestRule 35 = .ok (.if_icmp .eq 14, 3) := by decide +kernel
theorem dX7_bestRule_38 : decode cX7_bestRule 38 = .ok (.aload_n 0, 1) := by decide +kernel
theorem dX7_bestRule_39 : decode cX7_bestRule 39 = .ok (.getfield 44, 3) := by decide +kernel
theorem dX7_bestRule_42 : decode cX7_bestRule 42 = .ok (.invokevirtual 258, 3) := by decide +kernel
theorem dX7_bestRule_45 : decode cX7_bestRule 45 = .ok (.iload_n 2, 1) := by decide +kernel
theorem dX7_bestRule_46 : decode cX7_bestRule 46 = .ok (.if_icmp .ge 13, 3) := by decide +kernel
theorem dX7_bestRule_49 : decode cX7_bestRule 49 = .ok (.iload_n 3, 1) := by decide +kernel
theorem dX7_bestRule_50 : decode cX7_bestRule 50 = .ok (.istore_n 1, 1) := by decide +kernel
theorem dX7_bestRule_51 : decode cX7_bestRule 51 = .ok (.aload_n 0, 1) := by decide +kernel
theorem dX7_bestRule_52 : decode cX7_bestRule 52 = .ok (.getfield 44, 3) := by decide +kernel
theorem dX7_bestRule_55 : decode cX7_bestRule 55 = .ok (.invokevirtual 258, 3) := by decide +kernel
theorem dX7_bestRule_58 : decode cX7_bestRule 58 = .ok (.istore_n 2, 1) := by decide +kernel
theorem dX7_bestRule_59 : decode cX7_bestRule 59 = .ok (.iinc 3 1, 3) := by decide +kernel
theorem dX7_bestRule_62 : decode cX7_bestRule 62 = .ok (.goto (-56), 3) := by decide +kernel
theorem dX7_bestRule_65 : decode cX7_bestRule 65 = .ok (.iload_n 1, 1) := by decide +kernel
theorem dX7_bestRule_66 : decode cX7_bestRule 66 = .ok (.ireturn, 1) := by decide +kernel
theorem dX7_fewest_0 : decode cX7_fewest 0 = .ok (.aload_n 0, 1) := by decide +kernel
theorem dX7_fewest_1 : decode cX7_fewest 1 = .ok (.getfield 19, 3) := by decide +kernel
theorem dX7_fewest_4 : decode cX7_fewest 4 = .ok (.iload_n 1, 1) := by decide +kernel
theorem dX7_fewest_5 : decode cX7_fewest 5 = .ok (.invokevirtual 169, 3) := by decide +kernel
theorem dX7_fewest_8 : decode cX7_fewest 8 = .ok (.invokestatic 66, 3) := by decide +kernel
theorem dX7_fewest_11 : decode cX7_fewest 11 = .ok (.aload_n 0, 1) := by decide +kernel
theorem dX7_fewest_12 : decode cX7_fewest 12 = .ok (.getfield 38, 3) := by decide +kernel
theorem dX7_fewest_15 : decode cX7_fewest 15 = .ok (.aload_n 0, 1) := by decide +kernel
theorem dX7_fewest_16 : decode cX7_fewest 16 = .ok (.getfield 19, 3) := by decide +kernel
theorem dX7_fewest_19 : decode cX7_fewest 19 = .ok (.invokevirtual 261, 3) := by decide +kernel
theorem dX7_fewest_22 : decode cX7_fewest 22 = .ok (.aload_n 0, 1) := by decide +kernel
theorem dX7_fewest_23 : decode cX7_fewest 23 = .ok (.iload_n 1, 1) := by decide +kernel
theorem dX7_fewest_24 : decode cX7_fewest 24 = .ok (.bipush 99, 2) := by decide +kernel
theorem dX7_fewest_26 : decode cX7_fewest 26 = .ok (.invokevirtual 264, 3) := by decide +kernel
theorem dX7_fewest_29 : decode cX7_fewest 29 = .ok (.ifCond .ne 5, 3) := by decide +kernel
theorem dX7_fewest_32 : decode cX7_fewest 32 = .ok (.iconst (-1), 1) := by decide +kernel
theorem dX7_fewest_33 : decode cX7_fewest 33 = .ok (.ireturn, 1) := by decide +kernel
theorem dX7_fewest_34 : decode cX7_fewest 34 = .ok (.iconst 0, 1) := by decide +kernel
theorem dX7_fewest_35 : decode cX7_fewest 35 = .ok (.istore_n 2, 1) := by decide +kernel
theorem dX7_fewest_36 : decode cX7_fewest 36 = .ok (.bipush 99, 2) := by decide +kernel
theorem dX7_fewest_38 : decode cX7_fewest 38 = .ok (.istore_n 3, 1) := by decide +kernel
theorem dX7_fewest_39 : decode cX7_fewest 39 = .ok (.iconst 0, 1) := by decide +kernel
theorem dX7_fewest_40 : decode cX7_fewest 40 = .ok (.istore 4, 2) := by decide +kernel
theorem dX7_fewest_42 : decode cX7_fewest 42 = .ok (.iload 4, 2) := by decide +kernel
theorem dX7_fewest_44 : decode cX7_fewest 44 = .ok (.bipush 99, 2) := by decide +kernel
theorem dX7_fewest_46 : decode cX7_fewest 46 = .ok (.if_icmp .ge 42, 3) := by decide +kernel
theorem dX7_fewest_49 : decode cX7_fewest 49 = .ok (.iload_n 2, 1) := by decide +kernel
theorem dX7_fewest_50 : decode cX7_fewest 50 = .ok (.iload_n 3, 1) := by decide +kernel
theorem dX7_fewest_51 : decode cX7_fewest 51 = .ok (.if_icmp .ge 37, 3) := by decide +kernel
theorem dX7_fewest_54 : decode cX7_fewest 54 = .ok (.iload_n 2, 1) := by decide +kernel
theorem dX7_fewest_55 : decode cX7_fewest 55 = .ok (.iload_n 3, 1) := by decide +kernel
theorem dX7_fewest_56 : decode cX7_fewest 56 = .ok (.iadd, 1) := by decide +kernel
theorem dX7_fewest_57 : decode cX7_fewest 57 = .ok (.iconst 2, 1) := by decide +kernel
theorem dX7_fewest_58 : decode cX7_fewest 58 = .ok (.idiv, 1) := by decide +kernel
theorem dX7_fewest_59 : decode cX7_fewest 59 = .ok (.istore 5, 2) := by decide +kernel
theorem dX7_fewest_61 : decode cX7_fewest 61 = .ok (.aload_n 0, 1) := by decide +kernel
theorem dX7_fewest_62 : decode cX7_fewest 62 = .ok (.iload_n 1, 1) := by decide +kernel
theorem dX7_fewest_63 : decode cX7_fewest 63 = .ok (.iload 5, 2) := by decide +kernel
theorem dX7_fewest_65 : decode cX7_fewest 65 = .ok (.invokevirtual 264, 3) := by decide +kernel
theorem dX7_fewest_68 : decode cX7_fewest 68 = .ok (.ifCond .eq 9, 3) := by decide +kernel
theorem dX7_fewest_71 : decode cX7_fewest 71 = .ok (.iload 5, 2) := by decide +kernel
theorem dX7_fewest_73 : decode cX7_fewest 73 = .ok (.istore_n 3, 1) := by decide +kernel
theorem dX7_fewest_74 : decode cX7_fewest 74 = .ok (.goto 8, 3) := by decide +kernel
theorem dX7_fewest_77 : decode cX7_fewest 77 = .ok (.iload 5, 2) := by decide +kernel
theorem dX7_fewest_79 : decode cX7_fewest 79 = .ok (.iconst 1, 1) := by decide +kernel
theorem dX7_fewest_80 : decode cX7_fewest 80 = .ok (.iadd, 1) := by decide +kernel
theorem dX7_fewest_81 : decode cX7_fewest 81 = .ok (.istore_n 2, 1) := by decide +kernel
theorem dX7_fewest_82 : decode cX7_fewest 82 = .ok (.iinc 4 1, 3) := by decide +kernel
theorem dX7_fewest_85 : decode cX7_fewest 85 = .ok (.goto (-43), 3) := by decide +kernel
theorem dX7_fewest_88 : decode cX7_fewest 88 = .ok (.iload_n 2, 1) := by decide +kernel
theorem dX7_fewest_89 : decode cX7_fewest 89 = .ok (.ireturn, 1) := by decide +kernel
theorem dX7_agrees_0 : decode cX7_agrees 0 = .ok (.aload_n 0, 1) := by decide +kernel
theorem dX7_agrees_1 : decode cX7_agrees 1 = .ok (.getfield 19, 3) := by decide +kernel
theorem dX7_agrees_4 : decode cX7_agrees 4 = .ok (.iload_n 1, 1) := by decide +kernel
theorem dX7_agrees_5 : decode cX7_agrees 5 = .ok (.invokevirtual 169, 3) := by decide +kernel
theorem dX7_agrees_8 : decode cX7_agrees 8 = .ok (.invokestatic 66, 3) := by decide +kernel
theorem dX7_agrees_11 : decode cX7_agrees 11 = .ok (.iload_n 2, 1) := by decide +kernel
theorem dX7_agrees_12 : decode cX7_agrees 12 = .ok (.iconst 1, 1) := by decide +kernel
theorem dX7_agrees_13 : decode cX7_agrees 13 = .ok (.bipush 6, 2) := by decide +kernel
theorem dX7_agrees_15 : decode cX7_agrees 15 = .ok (.invokestatic 62, 3) := by decide +kernel
theorem dX7_agrees_18 : decode cX7_agrees 18 = .ok (.invokestatic 66, 3) := by decide +kernel
theorem dX7_agrees_21 : decode cX7_agrees 21 = .ok (.aload_n 0, 1) := by decide +kernel
theorem dX7_agrees_22 : decode cX7_agrees 22 = .ok (.getfield 38, 3) := by decide +kernel
theorem dX7_agrees_25 : decode cX7_agrees 25 = .ok (.aload_n 0, 1) := by decide +kernel
theorem dX7_agrees_26 : decode cX7_agrees 26 = .ok (.getfield 19, 3) := by decide +kernel
theorem dX7_agrees_29 : decode cX7_agrees 29 = .ok (.invokevirtual 261, 3) := by decide +kernel
theorem dX7_agrees_32 : decode cX7_agrees 32 = .ok (.iconst 1, 1) := by decide +kernel
theorem dX7_agrees_33 : decode cX7_agrees 33 = .ok (.istore_n 3, 1) := by decide +kernel
theorem dX7_agrees_34 : decode cX7_agrees 34 = .ok (.iload_n 3, 1) := by decide +kernel
theorem dX7_agrees_35 : decode cX7_agrees 35 = .ok (.bipush 6, 2) := by decide +kernel
theorem dX7_agrees_37 : decode cX7_agrees 37 = .ok (.if_icmp .gt 45, 3) := by decide +kernel
theorem dX7_agrees_40 : decode cX7_agrees 40 = .ok (.aload_n 0, 1) := by decide +kernel
theorem dX7_agrees_41 : decode cX7_agrees 41 = .ok (.getfield 38, 3) := by decide +kernel
theorem dX7_agrees_44 : decode cX7_agrees 44 = .ok (.getfield 172, 3) := by decide +kernel
theorem dX7_agrees_47 : decode cX7_agrees 47 = .ok (.iload_n 1, 1) := by decide +kernel
theorem dX7_agrees_48 : decode cX7_agrees 48 = .ok (.iload_n 2, 1) := by decide +kernel
theorem dX7_agrees_49 : decode cX7_agrees 49 = .ok (.iastore, 1) := by decide +kernel
theorem dX7_agrees_50 : decode cX7_agrees 50 = .ok (.aload_n 0, 1) := by decide +kernel
theorem dX7_agrees_51 : decode cX7_agrees 51 = .ok (.getfield 38, 3) := by decide +kernel
theorem dX7_agrees_54 : decode cX7_agrees 54 = .ok (.getfield 175, 3) := by decide +kernel
theorem dX7_agrees_57 : decode cX7_agrees 57 = .ok (.iload_n 1, 1) := by decide +kernel
theorem dX7_agrees_58 : decode cX7_agrees 58 = .ok (.iload_n 3, 1) := by decide +kernel
theorem dX7_agrees_59 : decode cX7_agrees 59 = .ok (.iastore, 1) := by decide +kernel
theorem dX7_agrees_60 : decode cX7_agrees 60 = .ok (.aload_n 0, 1) := by decide +kernel
theorem dX7_agrees_61 : decode cX7_agrees 61 = .ok (.getfield 51, 3) := by decide +kernel
theorem dX7_agrees_64 : decode cX7_agrees 64 = .ok (.aload_n 0, 1) := by decide +kernel
theorem dX7_agrees_65 : decode cX7_agrees 65 = .ok (.getfield 38, 3) := by decide +kernel
theorem dX7_agrees_68 : decode cX7_agrees 68 = .ok (.invokevirtual 126, 3) := by decide +kernel
theorem dX7_agrees_71 : decode cX7_agrees 71 = .ok (.ifCond .eq 5, 3) := by decide +kernel
theorem dX7_agrees_74 : decode cX7_agrees 74 = .ok (.iload_n 3, 1) := by decide +kernel
theorem dX7_agrees_75 : decode cX7_agrees 75 = .ok (.ireturn, 1) := by decide +kernel
theorem dX7_agrees_76 : decode cX7_agrees 76 = .ok (.iinc 3 1, 3) := by decide +kernel
theorem dX7_agrees_79 : decode cX7_agrees 79 = .ok (.goto (-45), 3) := by decide +kernel
theorem dX7_agrees_82 : decode cX7_agrees 82 = .ok (.iconst (-1), 1) := by decide +kernel
theorem dX7_agrees_83 : decode cX7_agrees 83 = .ok (.ireturn, 1) := by decide +kernel
theorem dX7_runScript_0 : decode cX7_runScript 0 = .ok (.iload_n 1, 1) := by decide +kernel
theorem dX7_runScript_1 : decode cX7_runScript 1 = .ok (.iconst 1, 1) := by decide +kernel
theorem dX7_runScript_2 : decode cX7_runScript 2 = .ok (.iconst 3, 1) := by decide +kernel
theorem dX7_runScript_3 : decode cX7_runScript 3 = .ok (.invokestatic 62, 3) := by decide +kernel
theorem dX7_runScript_6 : decode cX7_runScript 6 = .ok (.invokestatic 66, 3) := by decide +kernel
theorem dX7_runScript_9 : decode cX7_runScript 9 = .ok (.lload_n 2, 1) := by decide +kernel
theorem dX7_runScript_10 : decode cX7_runScript 10 = .ok (.lconst 0, 1) := by decide +kernel
theorem dX7_runScript_11 : decode cX7_runScript 11 = .ok (.lcmp, 1) := by decide +kernel
theorem dX7_runScript_12 : decode cX7_runScript 12 = .ok (.ifCond .lt 13, 3) := by decide +kernel
theorem dX7_runScript_15 : decode cX7_runScript 15 = .ok (.lload_n 2, 1) := by decide +kernel
theorem dX7_runScript_16 : decode cX7_runScript 16 = .ok (.iload_n 1, 1) := by decide +kernel
theorem dX7_runScript_17 : decode cX7_runScript 17 = .ok (.invokestatic 268, 3) := by decide +kernel
theorem dX7_runScript_20 : decode cX7_runScript 20 = .ok (.lconst 0, 1) := by decide +kernel
theorem dX7_runScript_21 : decode cX7_runScript 21 = .ok (.lcmp, 1) := by decide +kernel
theorem dX7_runScript_22 : decode cX7_runScript 22 = .ok (.ifCond .le 9, 3) := by decide +kernel
theorem dX7_runScript_25 : decode cX7_runScript 25 = .ok (.getstatic 242, 3) := by decide +kernel
theorem dX7_runScript_28 : decode cX7_runScript 28 = .ok (.goto 6, 3) := by decide +kernel
theorem dX7_runScript_31 : decode cX7_runScript 31 = .ok (.getstatic 80, 3) := by decide +kernel
theorem dX7_runScript_34 : decode cX7_runScript 34 = .ok (.invokestatic 66, 3) := by decide +kernel
theorem dX7_runScript_37 : decode cX7_runScript 37 = .ok (.aload_n 0, 1) := by decide +kernel
theorem dX7_runScript_38 : decode cX7_runScript 38 = .ok (.getfield 38, 3) := by decide +kernel
theorem dX7_runScript_41 : decode cX7_runScript 41 = .ok (.aload_n 0, 1) := by decide +kernel
theorem dX7_runScript_42 : decode cX7_runScript 42 = .ok (.getfield 19, 3) := by decide +kernel
theorem dX7_runScript_45 : decode cX7_runScript 45 = .ok (.invokevirtual 261, 3) := by decide +kernel
theorem dX7_runScript_48 : decode cX7_runScript 48 = .ok (.iconst 0, 1) := by decide +kernel
theorem dX7_runScript_49 : decode cX7_runScript 49 = .ok (.istore 4, 2) := by decide +kernel
theorem dX7_runScript_51 : decode cX7_runScript 51 = .ok (.iload 4, 2) := by decide +kernel
theorem dX7_runScript_53 : decode cX7_runScript 53 = .ok (.iload_n 1, 1) := by decide +kernel
theorem dX7_runScript_54 : decode cX7_runScript 54 = .ok (.if_icmp .ge 34, 3) := by decide +kernel
theorem dX7_runScript_57 : decode cX7_runScript 57 = .ok (.aload_n 0, 1) := by decide +kernel
theorem dX7_runScript_58 : decode cX7_runScript 58 = .ok (.lload_n 2, 1) := by decide +kernel
theorem dX7_runScript_59 : decode cX7_runScript 59 = .ok (.iload_n 1, 1) := by decide +kernel
theorem dX7_runScript_60 : decode cX7_runScript 60 = .ok (.iconst 1, 1) := by decide +kernel
theorem dX7_runScript_61 : decode cX7_runScript 61 = .ok (.isub, 1) := by decide +kernel
theorem dX7_runScript_62 : decode cX7_runScript 62 = .ok (.iload 4, 2) := by decide +kernel
theorem dX7_runScript_64 : decode cX7_runScript 64 = .ok (.isub, 1) := by decide +kernel
theorem dX7_runScript_65 : decode cX7_runScript 65 = .ok (.invokestatic 268, 3) := by decide +kernel
theorem dX7_runScript_68 : decode cX7_runScript 68 = .ok (.ldc2_w 272, 3) := by decide +kernel
theorem dX7_runScript_71 : decode cX7_runScript 71 = .ok (.lrem, 1) := by decide +kernel
theorem dX7_runScript_72 : decode cX7_runScript 72 = .ok (.l2i, 1) := by decide +kernel
theorem dX7_runScript_73 : decode cX7_runScript 73 = .ok (.invokevirtual 274, 3) := by decide +kernel
theorem dX7_runScript_76 : decode cX7_runScript 76 = .ok (.ifCond .ne 6, 3) := by decide +kernel
theorem dX7_runScript_79 : decode cX7_runScript 79 = .ok (.iload 4, 2) := by decide +kernel
theorem dX7_runScript_81 : decode cX7_runScript 81 = .ok (.ireturn, 1) := by decide +kernel
theorem dX7_runScript_82 : decode cX7_runScript 82 = .ok (.iinc 4 1, 3) := by decide +kernel
theorem dX7_runScript_85 : decode cX7_runScript 85 = .ok (.goto (-34), 3) := by decide +kernel
theorem dX7_runScript_88 : decode cX7_runScript 88 = .ok (.iconst (-1), 1) := by decide +kernel
theorem dX7_runScript_89 : decode cX7_runScript 89 = .ok (.ireturn, 1) := by decide +kernel
theorem dX7_simulate_0 : decode cX7_simulate 0 = .ok (.iload_n 3, 1) := by decide +kernel
theorem dX7_simulate_1 : decode cX7_simulate 1 = .ok (.iconst 1, 1) := by decide +kernel
theorem dX7_simulate_2 : decode cX7_simulate 2 = .ok (.bipush 99, 2) := by decide +kernel
theorem dX7_simulate_4 : decode cX7_simulate 4 = .ok (.invokestatic 62, 3) := by decide +kernel
theorem dX7_simulate_7 : decode cX7_simulate 7 = .ok (.invokestatic 66, 3) := by decide +kernel
theorem dX7_simulate_10 : decode cX7_simulate 10 = .ok (.aload_n 0, 1) := by decide +kernel
theorem dX7_simulate_11 : decode cX7_simulate 11 = .ok (.getfield 38, 3) := by decide +kernel
theorem dX7_simulate_14 : decode cX7_simulate 14 = .ok (.aload_n 0, 1) := by decide +kernel
theorem dX7_simulate_15 : decode cX7_simulate 15 = .ok (.getfield 19, 3) := by decide +kernel
theorem dX7_simulate_18 : decode cX7_simulate 18 = .ok (.invokevirtual 261, 3) := by decide +kernel
theorem dX7_simulate_21 : decode cX7_simulate 21 = .ok (.lload_n 1, 1) := by decide +kernel
theorem dX7_simulate_22 : decode cX7_simulate 22 = .ok (.lstore 4, 2) := by decide +kernel
theorem dX7_simulate_24 : decode cX7_simulate 24 = .ok (.iconst 0, 1) := by decide +kernel
theorem dX7_simulate_25 : decode cX7_simulate 25 = .ok (.istore 6, 2) := by decide +kernel
theorem dX7_simulate_27 : decode cX7_simulate 27 = .ok (.iconst 0, 1) := by decide +kernel
theorem dX7_simulate_28 : decode cX7_simulate 28 = .ok (.istore 7, 2) := by decide +kernel
theorem dX7_simulate_30 : decode cX7_simulate 30 = .ok (.iload 7, 2) := by decide +kernel
theorem dX7_simulate_32 : decode cX7_simulate 32 = .ok (.iload_n 3, 1) := by decide +kernel
theorem dX7_simulate_33 : decode cX7_simulate 33 = .ok (.if_icmp .ge 36, 3) := by decide +kernel
theorem dX7_simulate_36 : decode cX7_simulate 36 = .ok (.lload 4, 2) := by decide +kernel
theorem dX7_simulate_38 : decode cX7_simulate 38 = .ok (.ldc2_w 277, 3) := by decide +kernel
theorem dX7_simulate_41 : decode cX7_simulate 41 = .ok (.lmul, 1) := by decide +kernel
theorem dX7_simulate_42 : decode cX7_simulate 42 = .ok (.ldc2_w 279, 3) := by decide +kernel
theorem dX7_simulate_45 : decode cX7_simulate 45 = .ok (.ladd, 1) := by decide +kernel
theorem dX7_simulate_46 : decode cX7_simulate 46 = .ok (.lstore 4, 2) := by decide +kernel
theorem dX7_simulate_48 : decode cX7_simulate 48 = .ok (.iload 6, 2) := by decide +kernel
theorem dX7_simulate_50 : decode cX7_simulate 50 = .ok (.aload_n 0, 1) := by decide +kernel
theorem dX7_simulate_51 : decode cX7_simulate 51 = .ok (.lload 4, 2) := by decide +kernel
theorem dX7_simulate_53 : decode cX7_simulate 53 = .ok (.bipush 33, 2) := by decide +kernel
theorem dX7_simulate_55 : decode cX7_simulate 55 = .ok (.lushr, 1) := by decide +kernel
theorem dX7_simulate_56 : decode cX7_simulate 56 = .ok (.l2i, 1) := by decide +kernel
theorem dX7_simulate_57 : decode cX7_simulate 57 = .ok (.invokevirtual 281, 3) := by decide +kernel
theorem dX7_simulate_60 : decode cX7_simulate 60 = .ok (.iadd, 1) := by decide +kernel
theorem dX7_simulate_61 : decode cX7_simulate 61 = .ok (.istore 6, 2) := by decide +kernel
theorem dX7_simulate_63 : decode cX7_simulate 63 = .ok (.iinc 7 1, 3) := by decide +kernel
theorem dX7_simulate_66 : decode cX7_simulate 66 = .ok (.goto (-36), 3) := by decide +kernel
theorem dX7_simulate_69 : decode cX7_simulate 69 = .ok (.sipush 1000, 3) := by decide +kernel
theorem dX7_simulate_72 : decode cX7_simulate 72 = .ok (.iload 6, 2) := by decide +kernel
theorem dX7_simulate_74 : decode cX7_simulate 74 = .ok (.sipush 999, 3) := by decide +kernel
theorem dX7_simulate_77 : decode cX7_simulate 77 = .ok (.invokestatic 284, 3) := by decide +kernel
theorem dX7_simulate_80 : decode cX7_simulate 80 = .ok (.imul, 1) := by decide +kernel
theorem dX7_simulate_81 : decode cX7_simulate 81 = .ok (.aload_n 0, 1) := by decide +kernel
theorem dX7_simulate_82 : decode cX7_simulate 82 = .ok (.getfield 38, 3) := by decide +kernel
theorem dX7_simulate_85 : decode cX7_simulate 85 = .ok (.invokevirtual 120, 3) := by decide +kernel
theorem dX7_simulate_88 : decode cX7_simulate 88 = .ok (.sipush 999, 3) := by decide +kernel
theorem dX7_simulate_91 : decode cX7_simulate 91 = .ok (.invokestatic 284, 3) := by decide +kernel
theorem dX7_simulate_94 : decode cX7_simulate 94 = .ok (.iadd, 1) := by decide +kernel
theorem dX7_simulate_95 : decode cX7_simulate 95 = .ok (.ireturn, 1) := by decide +kernel
theorem dX7_save_0 : decode cX7_save 0 = .ok (.iload_n 1, 1) := by decide +kernel
theorem dX7_save_1 : decode cX7_save 1 = .ok (.invokestatic 289, 3) := by decide +kernel
theorem dX7_save_4 : decode cX7_save 4 = .ok (.invokestatic 66, 3) := by decide +kernel
theorem dX7_save_7 : decode cX7_save 7 = .ok (.aload_n 0, 1) := by decide +kernel
theorem dX7_save_8 : decode cX7_save 8 = .ok (.getfield 30, 3) := by decide +kernel
theorem dX7_save_11 : decode cX7_save 11 = .ok (.iload_n 1, 1) := by decide +kernel
theorem dX7_save_12 : decode cX7_save 12 = .ok (.aaload, 1) := by decide +kernel
theorem dX7_save_13 : decode cX7_save 13 = .ok (.aload_n 0, 1) := by decide +kernel
theorem dX7_save_14 : decode cX7_save 14 = .ok (.getfield 19, 3) := by decide +kernel
theorem dX7_save_17 : decode cX7_save 17 = .ok (.invokevirtual 261, 3) := by decide +kernel
theorem dX7_save_20 : decode cX7_save 20 = .ok (.aload_n 0, 1) := by decide +kernel
theorem dX7_save_21 : decode cX7_save 21 = .ok (.getfield 34, 3) := by decide +kernel
theorem dX7_save_24 : decode cX7_save 24 = .ok (.iload_n 1, 1) := by decide +kernel
theorem dX7_save_25 : decode cX7_save 25 = .ok (.iconst 1, 1) := by decide +kernel
theorem dX7_save_26 : decode cX7_save 26 = .ok (.bastore, 1) := by decide +kernel
theorem dX7_save_27 : decode cX7_save 27 = .ok (.aload_n 0, 1) := by decide +kernel
theorem dX7_save_28 : decode cX7_save 28 = .ok (.getfield 19, 3) := by decide +kernel
theorem dX7_save_31 : decode cX7_save 31 = .ok (.getfield 117, 3) := by decide +kernel
theorem dX7_save_34 : decode cX7_save 34 = .ok (.ireturn, 1) := by decide +kernel
theorem dX7_restore_0 : decode cX7_restore 0 = .ok (.iload_n 1, 1) := by decide +kernel
theorem dX7_restore_1 : decode cX7_restore 1 = .ok (.invokestatic 289, 3) := by decide +kernel
theorem dX7_restore_4 : decode cX7_restore 4 = .ok (.invokestatic 66, 3) := by decide +kernel
theorem dX7_restore_7 : decode cX7_restore 7 = .ok (.aload_n 0, 1) := by decide +kernel
theorem dX7_restore_8 : decode cX7_restore 8 = .ok (.getfield 34, 3) := by decide +kernel
theorem dX7_restore_11 : decode cX7_restore 11 = .ok (.iload_n 1, 1) := by decide +kernel
theorem dX7_restore_12 : decode cX7_restore 12 = .ok (.baload, 1) := by decide +kernel
theorem dX7_restore_13 : decode cX7_restore 13 = .ok (.ifCond .eq 9, 3) := by decide +kernel
theorem dX7_restore_16 : decode cX7_restore 16 = .ok (.getstatic 80, 3) := by decide +kernel
theorem dX7_restore_19 : decode cX7_restore 19 = .ok (.goto 6, 3) := by decide +kernel
theorem dX7_restore_22 : decode cX7_restore 22 = .ok (.getstatic 74, 3) := by decide +kernel
theorem dX7_restore_25 : decode cX7_restore 25 = .ok (.invokestatic 66, 3) := by decide +kernel
theorem dX7_restore_28 : decode cX7_restore 28 = .ok (.aload_n 0, 1) := by decide +kernel
theorem dX7_restore_29 : decode cX7_restore 29 = .ok (.getfield 19, 3) := by decide +kernel
theorem dX7_restore_32 : decode cX7_restore 32 = .ok (.aload_n 0, 1) := by decide +kernel
theorem dX7_restore_33 : decode cX7_restore 33 = .ok (.getfield 30, 3) := by decide +kernel
theorem dX7_restore_36 : decode cX7_restore 36 = .ok (.iload_n 1, 1) := by decide +kernel
theorem dX7_restore_37 : decode cX7_restore 37 = .ok (.aaload, 1) := by decide +kernel
theorem dX7_restore_38 : decode cX7_restore 38 = .ok (.invokevirtual 261, 3) := by decide +kernel
theorem dX7_restore_41 : decode cX7_restore 41 = .ok (.aload_n 0, 1) := by decide +kernel
theorem dX7_restore_42 : decode cX7_restore 42 = .ok (.getfield 26, 3) := by decide +kernel
theorem dX7_restore_45 : decode cX7_restore 45 = .ok (.invokevirtual 96, 3) := by decide +kernel
theorem dX7_restore_48 : decode cX7_restore 48 = .ok (.aload_n 0, 1) := by decide +kernel
theorem dX7_restore_49 : decode cX7_restore 49 = .ok (.getfield 19, 3) := by decide +kernel
theorem dX7_restore_52 : decode cX7_restore 52 = .ok (.getfield 117, 3) := by decide +kernel
theorem dX7_restore_55 : decode cX7_restore 55 = .ok (.ireturn, 1) := by decide +kernel
theorem dX7_refuse_0 : decode cX7_refuse 0 = .ok (.aload_n 0, 1) := by decide +kernel
theorem dX7_refuse_1 : decode cX7_refuse 1 = .ok (.getstatic 292, 3) := by decide +kernel
theorem dX7_refuse_4 : decode cX7_refuse 4 = .ok (.if_acmp .ne 14, 3) := by decide +kernel
theorem dX7_refuse_7 : decode cX7_refuse 7 = .ok (.new 295, 3) := by decide +kernel
theorem dX7_refuse_10 : decode cX7_refuse 10 = .ok (.dup, 1) := by decide +kernel
theorem dX7_refuse_11 : decode cX7_refuse 11 = .ok (.ldc_w 297, 3) := by decide +kernel
theorem dX7_refuse_14 : decode cX7_refuse 14 = .ok (.invokespecial 299, 3) := by decide +kernel
theorem dX7_refuse_17 : decode cX7_refuse 17 = .ok (.athrow, 1) := by decide +kernel
theorem dX7_refuse_18 : decode cX7_refuse 18 = .ok (.aload_n 0, 1) := by decide +kernel
theorem dX7_refuse_19 : decode cX7_refuse 19 = .ok (.getstatic 242, 3) := by decide +kernel
theorem dX7_refuse_22 : decode cX7_refuse 22 = .ok (.if_acmp .ne 14, 3) := by decide +kernel
theorem dX7_refuse_25 : decode cX7_refuse 25 = .ok (.new 302, 3) := by decide +kernel
theorem dX7_refuse_28 : decode cX7_refuse 28 = .ok (.dup, 1) := by decide +kernel
theorem dX7_refuse_29 : decode cX7_refuse 29 = .ok (.ldc_w 304, 3) := by decide +kernel
theorem dX7_refuse_32 : decode cX7_refuse 32 = .ok (.invokespecial 306, 3) := by decide +kernel
theorem dX7_refuse_35 : decode cX7_refuse 35 = .ok (.athrow, 1) := by decide +kernel
theorem dX7_refuse_36 : decode cX7_refuse 36 = .ok (.aload_n 0, 1) := by decide +kernel
theorem dX7_refuse_37 : decode cX7_refuse 37 = .ok (.getstatic 74, 3) := by decide +kernel
theorem dX7_refuse_40 : decode cX7_refuse 40 = .ok (.if_acmp .ne 14, 3) := by decide +kernel
theorem dX7_refuse_43 : decode cX7_refuse 43 = .ok (.new 307, 3) := by decide +kernel
theorem dX7_refuse_46 : decode cX7_refuse 46 = .ok (.dup, 1) := by decide +kernel
theorem dX7_refuse_47 : decode cX7_refuse 47 = .ok (.ldc_w 309, 3) := by decide +kernel
theorem dX7_refuse_50 : decode cX7_refuse 50 = .ok (.invokespecial 311, 3) := by decide +kernel
theorem dX7_refuse_53 : decode cX7_refuse 53 = .ok (.athrow, 1) := by decide +kernel
theorem dX7_refuse_54 : decode cX7_refuse 54 = .ok (.return_, 1) := by decide +kernel
theorem dX7_range_0 : decode cX7_range 0 = .ok (.iload_n 0, 1) := by decide +kernel
theorem dX7_range_1 : decode cX7_range 1 = .ok (.iload_n 1, 1) := by decide +kernel
theorem dX7_range_2 : decode cX7_range 2 = .ok (.if_icmp .lt 8, 3) := by decide +kernel
theorem dX7_range_5 : decode cX7_range 5 = .ok (.iload_n 0, 1) := by decide +kernel
theorem dX7_range_6 : decode cX7_range 6 = .ok (.iload_n 2, 1) := by decide +kernel
theorem dX7_range_7 : decode cX7_range 7 = .ok (.if_icmp .le 9, 3) := by decide +kernel
theorem dX7_range_10 : decode cX7_range 10 = .ok (.getstatic 242, 3) := by decide +kernel
theorem dX7_range_13 : decode cX7_range 13 = .ok (.goto 6, 3) := by decide +kernel
theorem dX7_range_16 : decode cX7_range 16 = .ok (.getstatic 80, 3) := by decide +kernel
theorem dX7_range_19 : decode cX7_range 19 = .ok (.areturn, 1) := by decide +kernel
theorem dX7_ruleFault_0 : decode cX7_ruleFault 0 = .ok (.iload_n 0, 1) := by decide +kernel
theorem dX7_ruleFault_1 : decode cX7_ruleFault 1 = .ok (.iconst 0, 1) := by decide +kernel
theorem dX7_ruleFault_2 : decode cX7_ruleFault 2 = .ok (.iconst 2, 1) := by decide +kernel
theorem dX7_ruleFault_3 : decode cX7_ruleFault 3 = .ok (.invokestatic 62, 3) := by decide +kernel
theorem dX7_ruleFault_6 : decode cX7_ruleFault 6 = .ok (.areturn, 1) := by decide +kernel
theorem dX7_slotFault_0 : decode cX7_slotFault 0 = .ok (.iload_n 0, 1) := by decide +kernel
theorem dX7_slotFault_1 : decode cX7_slotFault 1 = .ok (.ifCond .lt 8, 3) := by decide +kernel
theorem dX7_slotFault_4 : decode cX7_slotFault 4 = .ok (.iload_n 0, 1) := by decide +kernel
theorem dX7_slotFault_5 : decode cX7_slotFault 5 = .ok (.iconst 2, 1) := by decide +kernel
theorem dX7_slotFault_6 : decode cX7_slotFault 6 = .ok (.if_icmp .lt 9, 3) := by decide +kernel
theorem dX7_slotFault_9 : decode cX7_slotFault 9 = .ok (.getstatic 292, 3) := by decide +kernel
theorem dX7_slotFault_12 : decode cX7_slotFault 12 = .ok (.goto 6, 3) := by decide +kernel
theorem dX7_slotFault_15 : decode cX7_slotFault 15 = .ok (.getstatic 80, 3) := by decide +kernel
theorem dX7_slotFault_18 : decode cX7_slotFault 18 = .ok (.areturn, 1) := by decide +kernel
theorem dX7_isCompleteWith_0 : decode cX7_isCompleteWith 0 = .ok (.aload_n 0, 1) := by decide +kernel
theorem dX7_isCompleteWith_1 : decode cX7_isCompleteWith 1 = .ok (.getfield 38, 3) := by decide +kernel
theorem dX7_isCompleteWith_4 : decode cX7_isCompleteWith 4 = .ok (.getfield 178, 3) := by decide +kernel
theorem dX7_isCompleteWith_7 : decode cX7_isCompleteWith 7 = .ok (.iload_n 1, 1) := by decide +kernel
theorem dX7_isCompleteWith_8 : decode cX7_isCompleteWith 8 = .ok (.iload_n 2, 1) := by decide +kernel
theorem dX7_isCompleteWith_9 : decode cX7_isCompleteWith 9 = .ok (.iastore, 1) := by decide +kernel
theorem dX7_isCompleteWith_10 : decode cX7_isCompleteWith 10 = .ok (.aload_n 0, 1) := by decide +kernel
theorem dX7_isCompleteWith_11 : decode cX7_isCompleteWith 11 = .ok (.getfield 44, 3) := by decide +kernel
theorem dX7_isCompleteWith_14 : decode cX7_isCompleteWith 14 = .ok (.aload_n 0, 1) := by decide +kernel
theorem dX7_isCompleteWith_15 : decode cX7_isCompleteWith 15 = .ok (.getfield 38, 3) := by decide +kernel
theorem dX7_isCompleteWith_18 : decode cX7_isCompleteWith 18 = .ok (.iconst 0, 1) := by decide +kernel
theorem dX7_isCompleteWith_19 : decode cX7_isCompleteWith 19 = .ok (.invokevirtual 225, 3) := by decide +kernel
theorem dX7_isCompleteWith_22 : decode cX7_isCompleteWith 22 = .ok (.aload_n 0, 1) := by decide +kernel
theorem dX7_isCompleteWith_23 : decode cX7_isCompleteWith 23 = .ok (.getfield 44, 3) := by decide +kernel
theorem dX7_isCompleteWith_26 : decode cX7_isCompleteWith 26 = .ok (.invokevirtual 229, 3) := by decide +kernel
theorem dX7_isCompleteWith_29 : decode cX7_isCompleteWith 29 = .ok (.ireturn, 1) := by decide +kernel
theorem dX7_obeysText_0 : decode cX7_obeysText 0 = .ok (.aload_n 0, 1) := by decide +kernel
theorem dX7_obeysText_1 : decode cX7_obeysText 1 = .ok (.getfield 10, 3) := by decide +kernel
theorem dX7_obeysText_4 : decode cX7_obeysText 4 = .ok (.iload_n 1, 1) := by decide +kernel
theorem dX7_obeysText_5 : decode cX7_obeysText 5 = .ok (.invokevirtual 106, 3) := by decide +kernel
theorem dX7_obeysText_8 : decode cX7_obeysText 8 = .ok (.lookupswitch 169 #[(99, 137), (109, 36), (119, 64)], 36) := by decide +kernel
theorem dX7_obeysText_44 : decode cX7_obeysText 44 = .ok (.aload_n 0, 1) := by decide +kernel
theorem dX7_obeysText_45 : decode cX7_obeysText 45 = .ok (.getfield 19, 3) := by decide +kernel
theorem dX7_obeysText_48 : decode cX7_obeysText 48 = .ok (.aload_n 0, 1) := by decide +kernel
theorem dX7_obeysText_49 : decode cX7_obeysText 49 = .ok (.getfield 10, 3) := by decide +kernel
theorem dX7_obeysText_52 : decode cX7_obeysText 52 = .ok (.iload_n 1, 1) := by decide +kernel
theorem dX7_obeysText_53 : decode cX7_obeysText 53 = .ok (.iconst 1, 1) := by decide +kernel
theorem dX7_obeysText_54 : decode cX7_obeysText 54 = .ok (.iadd, 1) := by decide +kernel
theorem dX7_obeysText_55 : decode cX7_obeysText 55 = .ok (.invokevirtual 312, 3) := by decide +kernel
theorem dX7_obeysText_58 : decode cX7_obeysText 58 = .ok (.aload_n 0, 1) := by decide +kernel
theorem dX7_obeysText_59 : decode cX7_obeysText 59 = .ok (.getfield 10, 3) := by decide +kernel
theorem dX7_obeysText_62 : decode cX7_obeysText 62 = .ok (.iload_n 1, 1) := by decide +kernel
theorem dX7_obeysText_63 : decode cX7_obeysText 63 = .ok (.iconst 2, 1) := by decide +kernel
theorem dX7_obeysText_64 : decode cX7_obeysText 64 = .ok (.iadd, 1) := by decide +kernel
theorem dX7_obeysText_65 : decode cX7_obeysText 65 = .ok (.invokevirtual 312, 3) := by decide +kernel
theorem dX7_obeysText_68 : decode cX7_obeysText 68 = .ok (.invokevirtual 315, 3) := by decide +kernel
theorem dX7_obeysText_71 : decode cX7_obeysText 71 = .ok (.ireturn, 1) := by decide +kernel
theorem dX7_obeysText_72 : decode cX7_obeysText 72 = .ok (.aload_n 0, 1) := by decide +kernel
theorem dX7_obeysText_73 : decode cX7_obeysText 73 = .ok (.getfield 19, 3) := by decide +kernel
theorem dX7_obeysText_76 : decode cX7_obeysText 76 = .ok (.aload_n 0, 1) := by decide +kernel
theorem dX7_obeysText_77 : decode cX7_obeysText 77 = .ok (.getfield 10, 3) := by decide +kernel
theorem dX7_obeysText_80 : decode cX7_obeysText 80 = .ok (.iload_n 1, 1) := by decide +kernel
theorem dX7_obeysText_81 : decode cX7_obeysText 81 = .ok (.iconst 1, 1) := by decide +kernel
theorem dX7_obeysText_82 : decode cX7_obeysText 82 = .ok (.iadd, 1) := by decide +kernel
theorem dX7_obeysText_83 : decode cX7_obeysText 83 = .ok (.invokevirtual 312, 3) := by decide +kernel
theorem dX7_obeysText_86 : decode cX7_obeysText 86 = .ok (.aload_n 0, 1) := by decide +kernel
theorem dX7_obeysText_87 : decode cX7_obeysText 87 = .ok (.getfield 10, 3) := by decide +kernel
theorem dX7_obeysText_90 : decode cX7_obeysText 90 = .ok (.iload_n 1, 1) := by decide +kernel
theorem dX7_obeysText_91 : decode cX7_obeysText 91 = .ok (.iconst 2, 1) := by decide +kernel
theorem dX7_obeysText_92 : decode cX7_obeysText 92 = .ok (.iadd, 1) := by decide +kernel
theorem dX7_obeysText_93 : decode cX7_obeysText 93 = .ok (.invokevirtual 312, 3) := by decide +kernel
theorem dX7_obeysText_96 : decode cX7_obeysText 96 = .ok (.aload_n 0, 1) := by decide +kernel
theorem dX7_obeysText_97 : decode cX7_obeysText 97 = .ok (.getfield 10, 3) := by decide +kernel
theorem dX7_obeysText_100 : decode cX7_obeysText 100 = .ok (.iload_n 1, 1) := by decide +kernel
theorem dX7_obeysText_101 : decode cX7_obeysText 101 = .ok (.iconst 3, 1) := by decide +kernel
theorem dX7_obeysText_102 : decode cX7_obeysText 102 = .ok (.iadd, 1) := by decide +kernel
theorem dX7_obeysText_103 : decode cX7_obeysText 103 = .ok (.invokevirtual 312, 3) := by decide +kernel
theorem dX7_obeysText_106 : decode cX7_obeysText 106 = .ok (.aload_n 0, 1) := by decide +kernel
theorem dX7_obeysText_107 : decode cX7_obeysText 107 = .ok (.getfield 10, 3) := by decide +kernel
theorem dX7_obeysText_110 : decode cX7_obeysText 110 = .ok (.iload_n 1, 1) := by decide +kernel
theorem dX7_obeysText_111 : decode cX7_obeysText 111 = .ok (.iconst 4, 1) := by decide +kernel
theorem dX7_obeysText_112 : decode cX7_obeysText 112 = .ok (.iadd, 1) := by decide +kernel
theorem dX7_obeysText_113 : decode cX7_obeysText 113 = .ok (.invokevirtual 312, 3) := by decide +kernel
theorem dX7_obeysText_116 : decode cX7_obeysText 116 = .ok (.aload_n 0, 1) := by decide +kernel
theorem dX7_obeysText_117 : decode cX7_obeysText 117 = .ok (.getfield 10, 3) := by decide +kernel
theorem dX7_obeysText_120 : decode cX7_obeysText 120 = .ok (.iload_n 1, 1) := by decide +kernel
theorem dX7_obeysText_121 : decode cX7_obeysText 121 = .ok (.iconst 5, 1) := by decide +kernel
theorem dX7_obeysText_122 : decode cX7_obeysText 122 = .ok (.iadd, 1) := by decide +kernel
theorem dX7_obeysText_123 : decode cX7_obeysText 123 = .ok (.invokevirtual 312, 3) := by decide +kernel
theorem dX7_obeysText_126 : decode cX7_obeysText 126 = .ok (.bipush 10, 2) := by decide +kernel
theorem dX7_obeysText_128 : decode cX7_obeysText 128 = .ok (.imul, 1) := by decide +kernel
theorem dX7_obeysText_129 : decode cX7_obeysText 129 = .ok (.aload_n 0, 1) := by decide +kernel
theorem dX7_obeysText_130 : decode cX7_obeysText 130 = .ok (.getfield 10, 3) := by decide +kernel
theorem dX7_obeysText_133 : decode cX7_obeysText 133 = .ok (.iload_n 1, 1) := by decide +kernel
theorem dX7_obeysText_134 : decode cX7_obeysText 134 = .ok (.bipush 6, 2) := by decide +kernel
theorem dX7_obeysText_136 : decode cX7_obeysText 136 = .ok (.iadd, 1) := by decide +kernel
theorem dX7_obeysText_137 : decode cX7_obeysText 137 = .ok (.invokevirtual 312, 3) := by decide +kernel
theorem dX7_obeysText_140 : decode cX7_obeysText 140 = .ok (.iadd, 1) := by decide +kernel
theorem dX7_obeysText_141 : decode cX7_obeysText 141 = .ok (.invokevirtual 318, 3) := by decide +kernel
theorem dX7_obeysText_144 : decode cX7_obeysText 144 = .ok (.ireturn, 1) := by decide +kernel
theorem dX7_obeysText_145 : decode cX7_obeysText 145 = .ok (.aload_n 0, 1) := by decide +kernel
theorem dX7_obeysText_146 : decode cX7_obeysText 146 = .ok (.getfield 19, 3) := by decide +kernel
theorem dX7_obeysText_149 : decode cX7_obeysText 149 = .ok (.aload_n 0, 1) := by decide +kernel
theorem dX7_obeysText_150 : decode cX7_obeysText 150 = .ok (.getfield 10, 3) := by decide +kernel
theorem dX7_obeysText_153 : decode cX7_obeysText 153 = .ok (.iload_n 1, 1) := by decide +kernel
theorem dX7_obeysText_154 : decode cX7_obeysText 154 = .ok (.iconst 1, 1) := by decide +kernel
theorem dX7_obeysText_155 : decode cX7_obeysText 155 = .ok (.iadd, 1) := by decide +kernel
theorem dX7_obeysText_156 : decode cX7_obeysText 156 = .ok (.invokevirtual 312, 3) := by decide +kernel
theorem dX7_obeysText_159 : decode cX7_obeysText 159 = .ok (.bipush 10, 2) := by decide +kernel
theorem dX7_obeysText_161 : decode cX7_obeysText 161 = .ok (.imul, 1) := by decide +kernel
theorem dX7_obeysText_162 : decode cX7_obeysText 162 = .ok (.aload_n 0, 1) := by decide +kernel
theorem dX7_obeysText_163 : decode cX7_obeysText 163 = .ok (.getfield 10, 3) := by decide +kernel
theorem dX7_obeysText_166 : decode cX7_obeysText 166 = .ok (.iload_n 1, 1) := by decide +kernel
theorem dX7_obeysText_167 : decode cX7_obeysText 167 = .ok (.iconst 2, 1) := by decide +kernel
theorem dX7_obeysText_168 : decode cX7_obeysText 168 = .ok (.iadd, 1) := by decide +kernel
theorem dX7_obeysText_169 : decode cX7_obeysText 169 = .ok (.invokevirtual 312, 3) := by decide +kernel
theorem dX7_obeysText_172 : decode cX7_obeysText 172 = .ok (.iadd, 1) := by decide +kernel
theorem dX7_obeysText_173 : decode cX7_obeysText 173 = .ok (.invokevirtual 322, 3) := by decide +kernel
theorem dX7_obeysText_176 : decode cX7_obeysText 176 = .ok (.ireturn, 1) := by decide +kernel
theorem dX7_obeysText_177 : decode cX7_obeysText 177 = .ok (.aload_n 0, 1) := by decide +kernel
theorem dX7_obeysText_178 : decode cX7_obeysText 178 = .ok (.getfield 19, 3) := by decide +kernel
theorem dX7_obeysText_181 : decode cX7_obeysText 181 = .ok (.aload_n 0, 1) := by decide +kernel
theorem dX7_obeysText_182 : decode cX7_obeysText 182 = .ok (.getfield 10, 3) := by decide +kernel
theorem dX7_obeysText_185 : decode cX7_obeysText 185 = .ok (.iload_n 1, 1) := by decide +kernel
theorem dX7_obeysText_186 : decode cX7_obeysText 186 = .ok (.iconst 1, 1) := by decide +kernel
theorem dX7_obeysText_187 : decode cX7_obeysText 187 = .ok (.iadd, 1) := by decide +kernel
theorem dX7_obeysText_188 : decode cX7_obeysText 188 = .ok (.invokevirtual 312, 3) := by decide +kernel
theorem dX7_obeysText_191 : decode cX7_obeysText 191 = .ok (.invokevirtual 325, 3) := by decide +kernel
theorem dX7_obeysText_194 : decode cX7_obeysText 194 = .ok (.ireturn, 1) := by decide +kernel
theorem dX7_withoutGroups_0 : decode cX7_withoutGroups 0 = .ok (.lload_n 0, 1) := by decide +kernel
theorem dX7_withoutGroups_1 : decode cX7_withoutGroups 1 = .ok (.lstore_n 3, 1) := by decide +kernel
theorem dX7_withoutGroups_2 : decode cX7_withoutGroups 2 = .ok (.iconst 0, 1) := by decide +kernel
theorem dX7_withoutGroups_3 : decode cX7_withoutGroups 3 = .ok (.istore 5, 2) := by decide +kernel
theorem dX7_withoutGroups_5 : decode cX7_withoutGroups 5 = .ok (.iload 5, 2) := by decide +kernel
theorem dX7_withoutGroups_7 : decode cX7_withoutGroups 7 = .ok (.iload_n 2, 1) := by decide +kernel
theorem dX7_withoutGroups_8 : decode cX7_withoutGroups 8 = .ok (.if_icmp .ge 15, 3) := by decide +kernel
theorem dX7_withoutGroups_11 : decode cX7_withoutGroups 11 = .ok (.lload_n 3, 1) := by decide +kernel
theorem dX7_withoutGroups_12 : decode cX7_withoutGroups 12 = .ok (.ldc2_w 272, 3) := by decide +kernel
theorem dX7_withoutGroups_15 : decode cX7_withoutGroups 15 = .ok (.ldiv, 1) := by decide +kernel
theorem dX7_withoutGroups_16 : decode cX7_withoutGroups 16 = .ok (.lstore_n 3, 1) := by decide +kernel
theorem dX7_withoutGroups_17 : decode cX7_withoutGroups 17 = .ok (.iinc 5 1, 3) := by decide +kernel
theorem dX7_withoutGroups_20 : decode cX7_withoutGroups 20 = .ok (.goto (-15), 3) := by decide +kernel
theorem dX7_withoutGroups_23 : decode cX7_withoutGroups 23 = .ok (.lload_n 3, 1) := by decide +kernel
theorem dX7_withoutGroups_24 : decode cX7_withoutGroups 24 = .ok (.lreturn, 1) := by decide +kernel
theorem dX7_obeysGroup_0 : decode cX7_obeysGroup 0 = .ok (.iload_n 1, 1) := by decide +kernel
theorem dX7_obeysGroup_1 : decode cX7_obeysGroup 1 = .ok (.ldc_w 328, 3) := by decide +kernel
theorem dX7_obeysGroup_4 : decode cX7_obeysGroup 4 = .ok (.irem, 1) := by decide +kernel
theorem dX7_obeysGroup_5 : decode cX7_obeysGroup 5 = .ok (.istore_n 2, 1) := by decide +kernel
theorem dX7_obeysGroup_6 : decode cX7_obeysGroup 6 = .ok (.iload_n 1, 1) := by decide +kernel
theorem dX7_obeysGroup_7 : decode cX7_obeysGroup 7 = .ok (.ldc_w 328, 3) := by decide +kernel
theorem dX7_obeysGroup_10 : decode cX7_obeysGroup 10 = .ok (.idiv, 1) := by decide +kernel
theorem dX7_obeysGroup_11 : decode cX7_obeysGroup 11 = .ok (.tableswitch 302 1 9 #[49, 88, 111, 142, 165, 192, 216, 247, 271], 49) := by decide +kernel
theorem dX7_obeysGroup_60 : decode cX7_obeysGroup 60 = .ok (.aload_n 0, 1) := by decide +kernel
theorem dX7_obeysGroup_61 : decode cX7_obeysGroup 61 = .ok (.getfield 38, 3) := by decide +kernel
theorem dX7_obeysGroup_64 : decode cX7_obeysGroup 64 = .ok (.iload_n 2, 1) := by decide +kernel
theorem dX7_obeysGroup_65 : decode cX7_obeysGroup 65 = .ok (.sipush 10000, 3) := by decide +kernel
theorem dX7_obeysGroup_68 : decode cX7_obeysGroup 68 = .ok (.idiv, 1) := by decide +kernel
theorem dX7_obeysGroup_69 : decode cX7_obeysGroup 69 = .ok (.iload_n 2, 1) := by decide +kernel
theorem dX7_obeysGroup_70 : decode cX7_obeysGroup 70 = .ok (.sipush 1000, 3) := by decide +kernel
theorem dX7_obeysGroup_73 : decode cX7_obeysGroup 73 = .ok (.idiv, 1) := by decide +kernel
theorem dX7_obeysGroup_74 : decode cX7_obeysGroup 74 = .ok (.bipush 10, 2) := by decide +kernel
theorem dX7_obeysGroup_76 : decode cX7_obeysGroup 76 = .ok (.irem, 1) := by decide +kernel
theorem dX7_obeysGroup_77 : decode cX7_obeysGroup 77 = .ok (.iload_n 2, 1) := by decide +kernel
theorem dX7_obeysGroup_78 : decode cX7_obeysGroup 78 = .ok (.bipush 100, 2) := by decide +kernel
theorem dX7_obeysGroup_80 : decode cX7_obeysGroup 80 = .ok (.idiv, 1) := by decide +kernel
theorem dX7_obeysGroup_81 : decode cX7_obeysGroup 81 = .ok (.bipush 10, 2) := by decide +kernel
theorem dX7_obeysGroup_83 : decode cX7_obeysGroup 83 = .ok (.irem, 1) := by decide +kernel
theorem dX7_obeysGroup_84 : decode cX7_obeysGroup 84 = .ok (.iload_n 2, 1) := by decide +kernel
theorem dX7_obeysGroup_85 : decode cX7_obeysGroup 85 = .ok (.bipush 10, 2) := by decide +kernel
theorem dX7_obeysGroup_87 : decode cX7_obeysGroup 87 = .ok (.idiv, 1) := by decide +kernel
theorem dX7_obeysGroup_88 : decode cX7_obeysGroup 88 = .ok (.bipush 10, 2) := by decide +kernel
theorem dX7_obeysGroup_90 : decode cX7_obeysGroup 90 = .ok (.irem, 1) := by decide +kernel
theorem dX7_obeysGroup_91 : decode cX7_obeysGroup 91 = .ok (.iload_n 2, 1) := by decide +kernel
theorem dX7_obeysGroup_92 : decode cX7_obeysGroup 92 = .ok (.bipush 10, 2) := by decide +kernel
theorem dX7_obeysGroup_94 : decode cX7_obeysGroup 94 = .ok (.irem, 1) := by decide +kernel
theorem dX7_obeysGroup_95 : decode cX7_obeysGroup 95 = .ok (.invokevirtual 318, 3) := by decide +kernel
theorem dX7_obeysGroup_98 : decode cX7_obeysGroup 98 = .ok (.ireturn, 1) := by decide +kernel
theorem dX7_obeysGroup_99 : decode cX7_obeysGroup 99 = .ok (.iload_n 2, 1) := by decide +kernel
theorem dX7_obeysGroup_100 : decode cX7_obeysGroup 100 = .ok (.bipush 100, 2) := by decide +kernel
theorem dX7_obeysGroup_102 : decode cX7_obeysGroup 102 = .ok (.if_icmp .ge 18, 3) := by decide +kernel
theorem dX7_obeysGroup_105 : decode cX7_obeysGroup 105 = .ok (.aload_n 0, 1) := by decide +kernel
theorem dX7_obeysGroup_106 : decode cX7_obeysGroup 106 = .ok (.getfield 38, 3) := by decide +kernel
theorem dX7_obeysGroup_109 : decode cX7_obeysGroup 109 = .ok (.iload_n 2, 1) := by decide +kernel
theorem dX7_obeysGroup_110 : decode cX7_obeysGroup 110 = .ok (.invokevirtual 322, 3) := by decide +kernel
theorem dX7_obeysGroup_113 : decode cX7_obeysGroup 113 = .ok (.ifCond .eq 7, 3) := by decide +kernel
theorem dX7_obeysGroup_116 : decode cX7_obeysGroup 116 = .ok (.iconst 1, 1) := by decide +kernel
theorem dX7_obeysGroup_117 : decode cX7_obeysGroup 117 = .ok (.goto 4, 3) := by decide +kernel
theorem dX7_obeysGroup_120 : decode cX7_obeysGroup 120 = .ok (.iconst 0, 1) := by decide +kernel
theorem dX7_obeysGroup_121 : decode cX7_obeysGroup 121 = .ok (.ireturn, 1) := by decide +kernel
theorem dX7_obeysGroup_122 : decode cX7_obeysGroup 122 = .ok (.iload_n 2, 1) := by decide +kernel
theorem dX7_obeysGroup_123 : decode cX7_obeysGroup 123 = .ok (.sipush 10000, 3) := by decide +kernel
theorem dX7_obeysGroup_126 : decode cX7_obeysGroup 126 = .ok (.if_icmp .ge 25, 3) := by decide +kernel
theorem dX7_obeysGroup_129 : decode cX7_obeysGroup 129 = .ok (.aload_n 0, 1) := by decide +kernel
theorem dX7_obeysGroup_130 : decode cX7_obeysGroup 130 = .ok (.getfield 38, 3) := by decide +kernel
theorem dX7_obeysGroup_133 : decode cX7_obeysGroup 133 = .ok (.iload_n 2, 1) := by decide +kernel
theorem dX7_obeysGroup_134 : decode cX7_obeysGroup 134 = .ok (.bipush 100, 2) := by decide +kernel
theorem dX7_obeysGroup_136 : decode cX7_obeysGroup 136 = .ok (.idiv, 1) := by decide +kernel
theorem dX7_obeysGroup_137 : decode cX7_obeysGroup 137 = .ok (.iload_n 2, 1) := by decide +kernel
theorem dX7_obeysGroup_138 : decode cX7_obeysGroup 138 = .ok (.bipush 100, 2) := by decide +kernel
theorem dX7_obeysGroup_140 : decode cX7_obeysGroup 140 = .ok (.irem, 1) := by decide +kernel
theorem dX7_obeysGroup_141 : decode cX7_obeysGroup 141 = .ok (.invokevirtual 329, 3) := by decide +kernel
theorem dX7_obeysGroup_144 : decode cX7_obeysGroup 144 = .ok (.ifCond .eq 7, 3) := by decide +kernel
theorem dX7_obeysGroup_147 : decode cX7_obeysGroup 147 = .ok (.iconst 1, 1) := by decide +kernel
theorem dX7_obeysGroup_148 : decode cX7_obeysGroup 148 = .ok (.goto 4, 3) := by decide +kernel
theorem dX7_obeysGroup_151 : decode cX7_obeysGroup 151 = .ok (.iconst 0, 1) := by decide +kernel
theorem dX7_obeysGroup_152 : decode cX7_obeysGroup 152 = .ok (.ireturn, 1) := by decide +kernel
theorem dX7_obeysGroup_153 : decode cX7_obeysGroup 153 = .ok (.iload_n 2, 1) := by decide +kernel
theorem dX7_obeysGroup_154 : decode cX7_obeysGroup 154 = .ok (.bipush 10, 2) := by decide +kernel
theorem dX7_obeysGroup_156 : decode cX7_obeysGroup 156 = .ok (.if_icmp .ge 18, 3) := by decide +kernel
theorem dX7_obeysGroup_159 : decode cX7_obeysGroup 159 = .ok (.aload_n 0, 1) := by decide +kernel
theorem dX7_obeysGroup_160 : decode cX7_obeysGroup 160 = .ok (.getfield 38, 3) := by decide +kernel
theorem dX7_obeysGroup_163 : decode cX7_obeysGroup 163 = .ok (.iload_n 2, 1) := by decide +kernel
theorem dX7_obeysGroup_164 : decode cX7_obeysGroup 164 = .ok (.invokevirtual 325, 3) := by decide +kernel
theorem dX7_obeysGroup_167 : decode cX7_obeysGroup 167 = .ok (.ifCond .eq 7, 3) := by decide +kernel
theorem dX7_obeysGroup_170 : decode cX7_obeysGroup 170 = .ok (.iconst 1, 1) := by decide +kernel
theorem dX7_obeysGroup_171 : decode cX7_obeysGroup 171 = .ok (.goto 4, 3) := by decide +kernel
theorem dX7_obeysGroup_174 : decode cX7_obeysGroup 174 = .ok (.iconst 0, 1) := by decide +kernel
theorem dX7_obeysGroup_175 : decode cX7_obeysGroup 175 = .ok (.ireturn, 1) := by decide +kernel
theorem dX7_obeysGroup_176 : decode cX7_obeysGroup 176 = .ok (.iload_n 2, 1) := by decide +kernel
theorem dX7_obeysGroup_177 : decode cX7_obeysGroup 177 = .ok (.bipush 10, 2) := by decide +kernel
theorem dX7_obeysGroup_179 : decode cX7_obeysGroup 179 = .ok (.if_icmp .ge 22, 3) := by decide +kernel
theorem dX7_obeysGroup_182 : decode cX7_obeysGroup 182 = .ok (.aload_n 0, 1) := by decide +kernel
theorem dX7_obeysGroup_183 : decode cX7_obeysGroup 183 = .ok (.getfield 44, 3) := by decide +kernel
theorem dX7_obeysGroup_186 : decode cX7_obeysGroup 186 = .ok (.aload_n 0, 1) := by decide +kernel
theorem dX7_obeysGroup_187 : decode cX7_obeysGroup 187 = .ok (.getfield 38, 3) := by decide +kernel
theorem dX7_obeysGroup_190 : decode cX7_obeysGroup 190 = .ok (.iload_n 2, 1) := by decide +kernel
theorem dX7_obeysGroup_191 : decode cX7_obeysGroup 191 = .ok (.invokevirtual 332, 3) := by decide +kernel
theorem dX7_obeysGroup_194 : decode cX7_obeysGroup 194 = .ok (.ifCond .eq 7, 3) := by decide +kernel
theorem dX7_obeysGroup_197 : decode cX7_obeysGroup 197 = .ok (.iconst 1, 1) := by decide +kernel
theorem dX7_obeysGroup_198 : decode cX7_obeysGroup 198 = .ok (.goto 4, 3) := by decide +kernel
theorem dX7_obeysGroup_201 : decode cX7_obeysGroup 201 = .ok (.iconst 0, 1) := by decide +kernel
theorem dX7_obeysGroup_202 : decode cX7_obeysGroup 202 = .ok (.ireturn, 1) := by decide +kernel
theorem dX7_obeysGroup_203 : decode cX7_obeysGroup 203 = .ok (.iload_n 2, 1) := by decide +kernel
theorem dX7_obeysGroup_204 : decode cX7_obeysGroup 204 = .ok (.ifCond .ne 21, 3) := by decide +kernel
theorem dX7_obeysGroup_207 : decode cX7_obeysGroup 207 = .ok (.aload_n 0, 1) := by decide +kernel
theorem dX7_obeysGroup_208 : decode cX7_obeysGroup 208 = .ok (.getfield 51, 3) := by decide +kernel
theorem dX7_obeysGroup_211 : decode cX7_obeysGroup 211 = .ok (.aload_n 0, 1) := by decide +kernel
theorem dX7_obeysGroup_212 : decode cX7_obeysGroup 212 = .ok (.getfield 38, 3) := by decide +kernel
theorem dX7_obeysGroup_215 : decode cX7_obeysGroup 215 = .ok (.invokevirtual 126, 3) := by decide +kernel
theorem dX7_obeysGroup_218 : decode cX7_obeysGroup 218 = .ok (.ifCond .eq 7, 3) := by decide +kernel
theorem dX7_obeysGroup_221 : decode cX7_obeysGroup 221 = .ok (.iconst 1, 1) := by decide +kernel
theorem dX7_obeysGroup_222 : decode cX7_obeysGroup 222 = .ok (.goto 4, 3) := by decide +kernel
theorem dX7_obeysGroup_225 : decode cX7_obeysGroup 225 = .ok (.iconst 0, 1) := by decide +kernel
theorem dX7_obeysGroup_226 : decode cX7_obeysGroup 226 = .ok (.ireturn, 1) := by decide +kernel
theorem dX7_obeysGroup_227 : decode cX7_obeysGroup 227 = .ok (.iload_n 2, 1) := by decide +kernel
theorem dX7_obeysGroup_228 : decode cX7_obeysGroup 228 = .ok (.sipush 10000, 3) := by decide +kernel
theorem dX7_obeysGroup_231 : decode cX7_obeysGroup 231 = .ok (.if_icmp .ge 25, 3) := by decide +kernel
theorem dX7_obeysGroup_234 : decode cX7_obeysGroup 234 = .ok (.aload_n 0, 1) := by decide +kernel
theorem dX7_obeysGroup_235 : decode cX7_obeysGroup 235 = .ok (.getfield 38, 3) := by decide +kernel
theorem dX7_obeysGroup_238 : decode cX7_obeysGroup 238 = .ok (.iload_n 2, 1) := by decide +kernel
theorem dX7_obeysGroup_239 : decode cX7_obeysGroup 239 = .ok (.bipush 100, 2) := by decide +kernel
theorem dX7_obeysGroup_241 : decode cX7_obeysGroup 241 = .ok (.idiv, 1) := by decide +kernel
theorem dX7_obeysGroup_242 : decode cX7_obeysGroup 242 = .ok (.iload_n 2, 1) := by decide +kernel
theorem dX7_obeysGroup_243 : decode cX7_obeysGroup 243 = .ok (.bipush 100, 2) := by decide +kernel
theorem dX7_obeysGroup_245 : decode cX7_obeysGroup 245 = .ok (.irem, 1) := by decide +kernel
theorem dX7_obeysGroup_246 : decode cX7_obeysGroup 246 = .ok (.invokevirtual 336, 3) := by decide +kernel
theorem dX7_obeysGroup_249 : decode cX7_obeysGroup 249 = .ok (.ifCond .eq 7, 3) := by decide +kernel
theorem dX7_obeysGroup_252 : decode cX7_obeysGroup 252 = .ok (.iconst 1, 1) := by decide +kernel
theorem dX7_obeysGroup_253 : decode cX7_obeysGroup 253 = .ok (.goto 4, 3) := by decide +kernel
theorem dX7_obeysGroup_256 : decode cX7_obeysGroup 256 = .ok (.iconst 0, 1) := by decide +kernel
theorem dX7_obeysGroup_257 : decode cX7_obeysGroup 257 = .ok (.ireturn, 1) := by decide +kernel
theorem dX7_obeysGroup_258 : decode cX7_obeysGroup 258 = .ok (.iload_n 2, 1) := by decide +kernel
theorem dX7_obeysGroup_259 : decode cX7_obeysGroup 259 = .ok (.sipush 1000, 3) := by decide +kernel
theorem dX7_obeysGroup_262 : decode cX7_obeysGroup 262 = .ok (.if_icmp .ge 18, 3) := by decide +kernel
theorem dX7_obeysGroup_265 : decode cX7_obeysGroup 265 = .ok (.aload_n 0, 1) := by decide +kernel
theorem dX7_obeysGroup_266 : decode cX7_obeysGroup 266 = .ok (.getfield 38, 3) := by decide +kernel
theorem dX7_obeysGroup_269 : decode cX7_obeysGroup 269 = .ok (.invokevirtual 120, 3) := by decide +kernel
theorem dX7_obeysGroup_272 : decode cX7_obeysGroup 272 = .ok (.iload_n 2, 1) := by decide +kernel
theorem dX7_obeysGroup_273 : decode cX7_obeysGroup 273 = .ok (.if_icmp .gt 7, 3) := by decide +kernel
theorem dX7_obeysGroup_276 : decode cX7_obeysGroup 276 = .ok (.iconst 1, 1) := by decide +kernel
theorem dX7_obeysGroup_277 : decode cX7_obeysGroup 277 = .ok (.goto 4, 3) := by decide +kernel
theorem dX7_obeysGroup_280 : decode cX7_obeysGroup 280 = .ok (.iconst 0, 1) := by decide +kernel
theorem dX7_obeysGroup_281 : decode cX7_obeysGroup 281 = .ok (.ireturn, 1) := by decide +kernel
theorem dX7_obeysGroup_282 : decode cX7_obeysGroup 282 = .ok (.iload_n 2, 1) := by decide +kernel
theorem dX7_obeysGroup_283 : decode cX7_obeysGroup 283 = .ok (.sipush 1000, 3) := by decide +kernel
theorem dX7_obeysGroup_286 : decode cX7_obeysGroup 286 = .ok (.if_icmp .ge 25, 3) := by decide +kernel
theorem dX7_obeysGroup_289 : decode cX7_obeysGroup 289 = .ok (.aload_n 0, 1) := by decide +kernel
theorem dX7_obeysGroup_290 : decode cX7_obeysGroup 290 = .ok (.getfield 38, 3) := by decide +kernel
theorem dX7_obeysGroup_293 : decode cX7_obeysGroup 293 = .ok (.iload_n 2, 1) := by decide +kernel
theorem dX7_obeysGroup_294 : decode cX7_obeysGroup 294 = .ok (.bipush 100, 2) := by decide +kernel
theorem dX7_obeysGroup_296 : decode cX7_obeysGroup 296 = .ok (.idiv, 1) := by decide +kernel
theorem dX7_obeysGroup_297 : decode cX7_obeysGroup 297 = .ok (.iload_n 2, 1) := by decide +kernel
theorem dX7_obeysGroup_298 : decode cX7_obeysGroup 298 = .ok (.bipush 100, 2) := by decide +kernel
theorem dX7_obeysGroup_300 : decode cX7_obeysGroup 300 = .ok (.irem, 1) := by decide +kernel
theorem dX7_obeysGroup_301 : decode cX7_obeysGroup 301 = .ok (.invokevirtual 339, 3) := by decide +kernel
theorem dX7_obeysGroup_304 : decode cX7_obeysGroup 304 = .ok (.ifCond .eq 7, 3) := by decide +kernel
theorem dX7_obeysGroup_307 : decode cX7_obeysGroup 307 = .ok (.iconst 1, 1) := by decide +kernel
theorem dX7_obeysGroup_308 : decode cX7_obeysGroup 308 = .ok (.goto 4, 3) := by decide +kernel
theorem dX7_obeysGroup_311 : decode cX7_obeysGroup 311 = .ok (.iconst 0, 1) := by decide +kernel
theorem dX7_obeysGroup_312 : decode cX7_obeysGroup 312 = .ok (.ireturn, 1) := by decide +kernel
theorem dX7_obeysGroup_313 : decode cX7_obeysGroup 313 = .ok (.iconst 0, 1) := by decide +kernel
theorem dX7_obeysGroup_314 : decode cX7_obeysGroup 314 = .ok (.ireturn, 1) := by decide +kernel
theorem dX7_takeTurn_0 : decode cX7_takeTurn 0 = .ok (.iload_n 1, 1) := by decide +kernel
theorem dX7_takeTurn_1 : decode cX7_takeTurn 1 = .ok (.bipush 8, 2) := by decide +kernel
theorem dX7_takeTurn_3 : decode cX7_takeTurn 3 = .ok (.idiv, 1) := by decide +kernel
theorem dX7_takeTurn_4 : decode cX7_takeTurn 4 = .ok (.bipush 8, 2) := by decide +kernel
theorem dX7_takeTurn_6 : decode cX7_takeTurn 6 = .ok (.irem, 1) := by decide +kernel
theorem dX7_takeTurn_7 : decode cX7_takeTurn 7 = .ok (.istore_n 2, 1) := by decide +kernel
theorem dX7_takeTurn_8 : decode cX7_takeTurn 8 = .ok (.iload_n 1, 1) := by decide +kernel
theorem dX7_takeTurn_9 : decode cX7_takeTurn 9 = .ok (.bipush 8, 2) := by decide +kernel
theorem dX7_takeTurn_11 : decode cX7_takeTurn 11 = .ok (.irem, 1) := by decide +kernel
theorem dX7_takeTurn_12 : decode cX7_takeTurn 12 = .ok (.tableswitch 123 0 2 #[28, 72, 90], 28) := by decide +kernel
theorem dX7_takeTurn_40 : decode cX7_takeTurn 40 = .ok (.aload_n 0, 1) := by decide +kernel
theorem dX7_takeTurn_41 : decode cX7_takeTurn 41 = .ok (.getfield 38, 3) := by decide +kernel
theorem dX7_takeTurn_44 : decode cX7_takeTurn 44 = .ok (.iload_n 2, 1) := by decide +kernel
theorem dX7_takeTurn_45 : decode cX7_takeTurn 45 = .ok (.iload_n 1, 1) := by decide +kernel
theorem dX7_takeTurn_46 : decode cX7_takeTurn 46 = .ok (.bipush 64, 2) := by decide +kernel
theorem dX7_takeTurn_48 : decode cX7_takeTurn 48 = .ok (.idiv, 1) := by decide +kernel
theorem dX7_takeTurn_49 : decode cX7_takeTurn 49 = .ok (.bipush 8, 2) := by decide +kernel
theorem dX7_takeTurn_51 : decode cX7_takeTurn 51 = .ok (.irem, 1) := by decide +kernel
theorem dX7_takeTurn_52 : decode cX7_takeTurn 52 = .ok (.iconst 1, 1) := by decide +kernel
theorem dX7_takeTurn_53 : decode cX7_takeTurn 53 = .ok (.iload_n 1, 1) := by decide +kernel
theorem dX7_takeTurn_54 : decode cX7_takeTurn 54 = .ok (.sipush 512, 3) := by decide +kernel
theorem dX7_takeTurn_57 : decode cX7_takeTurn 57 = .ok (.idiv, 1) := by decide +kernel
theorem dX7_takeTurn_58 : decode cX7_takeTurn 58 = .ok (.iconst 3, 1) := by decide +kernel
theorem dX7_takeTurn_59 : decode cX7_takeTurn 59 = .ok (.irem, 1) := by decide +kernel
theorem dX7_takeTurn_60 : decode cX7_takeTurn 60 = .ok (.iadd, 1) := by decide +kernel
theorem dX7_takeTurn_61 : decode cX7_takeTurn 61 = .ok (.iconst 1, 1) := by decide +kernel
theorem dX7_takeTurn_62 : decode cX7_takeTurn 62 = .ok (.iload_n 1, 1) := by decide +kernel
theorem dX7_takeTurn_63 : decode cX7_takeTurn 63 = .ok (.sipush 2048, 3) := by decide +kernel
theorem dX7_takeTurn_66 : decode cX7_takeTurn 66 = .ok (.idiv, 1) := by decide +kernel
theorem dX7_takeTurn_67 : decode cX7_takeTurn 67 = .ok (.iconst 3, 1) := by decide +kernel
theorem dX7_takeTurn_68 : decode cX7_takeTurn 68 = .ok (.irem, 1) := by decide +kernel
theorem dX7_takeTurn_69 : decode cX7_takeTurn 69 = .ok (.iadd, 1) := by decide +kernel
theorem dX7_takeTurn_70 : decode cX7_takeTurn 70 = .ok (.iload_n 1, 1) := by decide +kernel
theorem dX7_takeTurn_71 : decode cX7_takeTurn 71 = .ok (.sipush 8192, 3) := by decide +kernel
theorem dX7_takeTurn_74 : decode cX7_takeTurn 74 = .ok (.idiv, 1) := by decide +kernel
theorem dX7_takeTurn_75 : decode cX7_takeTurn 75 = .ok (.bipush 8, 2) := by decide +kernel
theorem dX7_takeTurn_77 : decode cX7_takeTurn 77 = .ok (.irem, 1) := by decide +kernel
theorem dX7_takeTurn_78 : decode cX7_takeTurn 78 = .ok (.invokevirtual 318, 3) := by decide +kernel
theorem dX7_takeTurn_81 : decode cX7_takeTurn 81 = .ok (.pop, 1) := by decide +kernel
theorem dX7_takeTurn_82 : decode cX7_takeTurn 82 = .ok (.iconst 0, 1) := by decide +kernel
theorem dX7_takeTurn_83 : decode cX7_takeTurn 83 = .ok (.ireturn, 1) := by decide +kernel
theorem dX7_takeTurn_84 : decode cX7_takeTurn 84 = .ok (.aload_n 0, 1) := by decide +kernel
theorem dX7_takeTurn_85 : decode cX7_takeTurn 85 = .ok (.getfield 38, 3) := by decide +kernel
theorem dX7_takeTurn_88 : decode cX7_takeTurn 88 = .ok (.iload_n 1, 1) := by decide +kernel
theorem dX7_takeTurn_89 : decode cX7_takeTurn 89 = .ok (.sipush 512, 3) := by decide +kernel
theorem dX7_takeTurn_92 : decode cX7_takeTurn 92 = .ok (.idiv, 1) := by decide +kernel
theorem dX7_takeTurn_93 : decode cX7_takeTurn 93 = .ok (.bipush 14, 2) := by decide +kernel
theorem dX7_takeTurn_95 : decode cX7_takeTurn 95 = .ok (.irem, 1) := by decide +kernel
theorem dX7_takeTurn_96 : decode cX7_takeTurn 96 = .ok (.invokevirtual 322, 3) := by decide +kernel
theorem dX7_takeTurn_99 : decode cX7_takeTurn 99 = .ok (.pop, 1) := by decide +kernel
theorem dX7_takeTurn_100 : decode cX7_takeTurn 100 = .ok (.iconst 0, 1) := by decide +kernel
theorem dX7_takeTurn_101 : decode cX7_takeTurn 101 = .ok (.ireturn, 1) := by decide +kernel
theorem dX7_takeTurn_102 : decode cX7_takeTurn 102 = .ok (.aload_n 0, 1) := by decide +kernel
theorem dX7_takeTurn_103 : decode cX7_takeTurn 103 = .ok (.getfield 44, 3) := by decide +kernel
theorem dX7_takeTurn_106 : decode cX7_takeTurn 106 = .ok (.aload_n 0, 1) := by decide +kernel
theorem dX7_takeTurn_107 : decode cX7_takeTurn 107 = .ok (.getfield 38, 3) := by decide +kernel
theorem dX7_takeTurn_110 : decode cX7_takeTurn 110 = .ok (.iload_n 1, 1) := by decide +kernel
theorem dX7_takeTurn_111 : decode cX7_takeTurn 111 = .ok (.sipush 512, 3) := by decide +kernel
theorem dX7_takeTurn_114 : decode cX7_takeTurn 114 = .ok (.idiv, 1) := by decide +kernel
theorem dX7_takeTurn_115 : decode cX7_takeTurn 115 = .ok (.iconst 3, 1) := by decide +kernel
theorem dX7_takeTurn_116 : decode cX7_takeTurn 116 = .ok (.irem, 1) := by decide +kernel
theorem dX7_takeTurn_117 : decode cX7_takeTurn 117 = .ok (.invokevirtual 332, 3) := by decide +kernel
theorem dX7_takeTurn_120 : decode cX7_takeTurn 120 = .ok (.ifCond .eq 13, 3) := by decide +kernel
theorem dX7_takeTurn_123 : decode cX7_takeTurn 123 = .ok (.aload_n 0, 1) := by decide +kernel
theorem dX7_takeTurn_124 : decode cX7_takeTurn 124 = .ok (.getfield 44, 3) := by decide +kernel
theorem dX7_takeTurn_127 : decode cX7_takeTurn 127 = .ok (.getfield 252, 3) := by decide +kernel
theorem dX7_takeTurn_130 : decode cX7_takeTurn 130 = .ok (.goto 4, 3) := by decide +kernel
theorem dX7_takeTurn_133 : decode cX7_takeTurn 133 = .ok (.iconst 0, 1) := by decide +kernel
theorem dX7_takeTurn_134 : decode cX7_takeTurn 134 = .ok (.ireturn, 1) := by decide +kernel
theorem dX7_takeTurn_135 : decode cX7_takeTurn 135 = .ok (.aload_n 0, 1) := by decide +kernel
theorem dX7_takeTurn_136 : decode cX7_takeTurn 136 = .ok (.getfield 38, 3) := by decide +kernel
theorem dX7_takeTurn_139 : decode cX7_takeTurn 139 = .ok (.iload_n 2, 1) := by decide +kernel
theorem dX7_takeTurn_140 : decode cX7_takeTurn 140 = .ok (.invokevirtual 325, 3) := by decide +kernel
theorem dX7_takeTurn_143 : decode cX7_takeTurn 143 = .ok (.ifCond .eq 7, 3) := by decide +kernel
theorem dX7_takeTurn_146 : decode cX7_takeTurn 146 = .ok (.iconst 1, 1) := by decide +kernel
theorem dX7_takeTurn_147 : decode cX7_takeTurn 147 = .ok (.goto 4, 3) := by decide +kernel
theorem dX7_takeTurn_150 : decode cX7_takeTurn 150 = .ok (.iconst 0, 1) := by decide +kernel
theorem dX7_takeTurn_151 : decode cX7_takeTurn 151 = .ok (.ireturn, 1) := by decide +kernel
theorem dJ9_max_7cf53_0 : decode cJ9_max_7cf53 0 = .ok (.iload_n 0, 1) := by decide +kernel
theorem dJ9_max_7cf53_1 : decode cJ9_max_7cf53 1 = .ok (.iload_n 1, 1) := by decide +kernel
theorem dJ9_max_7cf53_2 : decode cJ9_max_7cf53 2 = .ok (.if_icmp .lt 7, 3) := by decide +kernel
theorem dJ9_max_7cf53_5 : decode cJ9_max_7cf53 5 = .ok (.iload_n 0, 1) := by decide +kernel
theorem dJ9_max_7cf53_6 : decode cJ9_max_7cf53 6 = .ok (.goto 4, 3) := by decide +kernel
theorem dJ9_max_7cf53_9 : decode cJ9_max_7cf53 9 = .ok (.iload_n 1, 1) := by decide +kernel
theorem dJ9_max_7cf53_10 : decode cJ9_max_7cf53 10 = .ok (.ireturn, 1) := by decide +kernel
theorem dJ9_min_7cf53_0 : decode cJ9_min_7cf53 0 = .ok (.iload_n 0, 1) := by decide +kernel
theorem dJ9_min_7cf53_1 : decode cJ9_min_7cf53 1 = .ok (.iload_n 1, 1) := by decide +kernel
theorem dJ9_min_7cf53_2 : decode cJ9_min_7cf53 2 = .ok (.if_icmp .gt 7, 3) := by decide +kernel
theorem dJ9_min_7cf53_5 : decode cJ9_min_7cf53 5 = .ok (.iload_n 0, 1) := by decide +kernel
theorem dJ9_min_7cf53_6 : decode cJ9_min_7cf53 6 = .ok (.goto 4, 3) := by decide +kernel
theorem dJ9_min_7cf53_9 : decode cJ9_min_7cf53 9 = .ok (.iload_n 1, 1) := by decide +kernel
theorem dJ9_min_7cf53_10 : decode cJ9_min_7cf53 10 = .ok (.ireturn, 1) := by decide +kernel
