set_option maxRecDepth 20000 in
theorem gk_0 : 0 < gw_n ∧ gw_kd 0 = (11, 0, [some 1, some 3, some 12, some 140, some 141, some 142, some 151, some 167, some 169]) := ⟨by decide, rfl⟩
set_option maxRecDepth 20000 in
theorem gk_1 : 1 < gw_n ∧ gw_kd 1 = (9, 0, [some 2, none]) := ⟨by decide, rfl⟩
set_option maxRecDepth 20000 in
theorem gk_2 : 2 < gw_n ∧ gw_kd 2 = (2, 120, []) := ⟨by decide, rfl⟩
set_option maxRecDepth 20000 in
theorem gk_3 : 3 < gw_n ∧ gw_kd 3 = (7, 0, [none, some 4, some 5, some 6, none, some 7, some 8, some 9, some 10, some 11]) := ⟨by decide, rfl⟩
set_option maxRecDepth 20000 in
theorem gk_4 : 4 < gw_n ∧ gw_kd 4 = (0, 8, []) := ⟨by decide, rfl⟩
set_option maxRecDepth 20000 in
theorem gk_5 : 5 < gw_n ∧ gw_kd 5 = (0, 8, []) := ⟨by decide, rfl⟩
set_option maxRecDepth 20000 in
theorem gk_6 : 6 < gw_n ∧ gw_kd 6 = (0, 8, []) := ⟨by decide, rfl⟩
set_option maxRecDepth 20000 in
theorem gk_7 : 7 < gw_n ∧ gw_kd 7 = (0, 14, []) := ⟨by decide, rfl⟩
set_option maxRecDepth 20000 in
theorem gk_8 : 8 < gw_n ∧ gw_kd 8 = (0, 14, []) := ⟨by decide, rfl⟩
set_option maxRecDepth 20000 in
theorem gk_9 : 9 < gw_n ∧ gw_kd 9 = (0, 14, []) := ⟨by decide, rfl⟩
set_option maxRecDepth 20000 in
theorem gk_10 : 10 < gw_n ∧ gw_kd 10 = (0, 14, []) := ⟨by decide, rfl⟩
set_option maxRecDepth 20000 in
theorem gk_11 : 11 < gw_n ∧ gw_kd 11 = (0, 14, []) := ⟨by decide, rfl⟩
set_option maxRecDepth 20000 in
theorem gk_12 : 12 < gw_n ∧ gw_kd 12 = (6, 0, [some 13, none, none]) := ⟨by decide, rfl⟩
set_option maxRecDepth 20000 in
theorem gk_13 : 13 < gw_n ∧ gw_kd 13 = (4, 14, [some 14, some 23, some 32, some 41, some 50, some 59, some 68, some 77, some 86, some 95, some 104, some 113, some 122, some 131]) := ⟨by decide, rfl⟩
set_option maxRecDepth 20000 in
theorem gk_14 : 14 < gw_n ∧ gw_kd 14 = (7, 0, [none, some 15, some 16, some 17, none, some 18, some 19, some 20, some 21, some 22]) := ⟨by decide, rfl⟩
set_option maxRecDepth 20000 in
theorem gk_15 : 15 < gw_n ∧ gw_kd 15 = (0, 8, []) := ⟨by decide, rfl⟩
set_option maxRecDepth 20000 in
theorem gk_16 : 16 < gw_n ∧ gw_kd 16 = (0, 8, []) := ⟨by decide, rfl⟩
set_option maxRecDepth 20000 in
theorem gk_17 : 17 < gw_n ∧ gw_kd 17 = (0, 8, []) := ⟨by decide, rfl⟩
set_option maxRecDepth 20000 in
theorem gk_18 : 18 < gw_n ∧ gw_kd 18 = (0, 14, []) := ⟨by decide, rfl⟩
set_option maxRecDepth 20000 in
theorem gk_19 : 19 < gw_n ∧ gw_kd 19 = (0, 14, []) := ⟨by decide, rfl⟩
set_option maxRecDepth 20000 in
theorem gk_20 : 20 < gw_n ∧ gw_kd 20 = (0, 14, []) := ⟨by decide, rfl⟩
set_option maxRecDepth 20000 in
theorem gk_21 : 21 < gw_n ∧ gw_kd 21 = (0, 14, []) := ⟨by decide, rfl⟩
set_option maxRecDepth 20000 in
theorem gk_22 : 22 < gw_n ∧ gw_kd 22 = (0, 14, []) := ⟨by decide, rfl⟩
set_option maxRecDepth 20000 in
theorem gk_23 : 23 < gw_n ∧ gw_kd 23 = (7, 0, [none, some 24, some 25, some 26, none, some 27, some 28, some 29, some 30, some 31]) := ⟨by decide, rfl⟩
set_option maxRecDepth 20000 in
theorem gk_24 : 24 < gw_n ∧ gw_kd 24 = (0, 8, []) := ⟨by decide, rfl⟩
set_option maxRecDepth 20000 in
theorem gk_25 : 25 < gw_n ∧ gw_kd 25 = (0, 8, []) := ⟨by decide, rfl⟩
set_option maxRecDepth 20000 in
theorem gk_26 : 26 < gw_n ∧ gw_kd 26 = (0, 8, []) := ⟨by decide, rfl⟩
set_option maxRecDepth 20000 in
theorem gk_27 : 27 < gw_n ∧ gw_kd 27 = (0, 14, []) := ⟨by decide, rfl⟩
set_option maxRecDepth 20000 in
theorem gk_28 : 28 < gw_n ∧ gw_kd 28 = (0, 14, []) := ⟨by decide, rfl⟩
set_option maxRecDepth 20000 in
theorem gk_29 : 29 < gw_n ∧ gw_kd 29 = (0, 14, []) := ⟨by decide, rfl⟩
set_option maxRecDepth 20000 in
theorem gk_30 : 30 < gw_n ∧ gw_kd 30 = (0, 14, []) := ⟨by decide, rfl⟩
set_option maxRecDepth 20000 in
theorem gk_31 : 31 < gw_n ∧ gw_kd 31 = (0, 14, []) := ⟨by decide, rfl⟩
set_option maxRecDepth 20000 in
theorem gk_32 : 32 < gw_n ∧ gw_kd 32 = (7, 0, [none, some 33, some 34, some 35, none, some 36, some 37, some 38, some 39, some 40]) := ⟨by decide, rfl⟩
set_option maxRecDepth 20000 in
theorem gk_33 : 33 < gw_n ∧ gw_kd 33 = (0, 8, []) := ⟨by decide, rfl⟩
set_option maxRecDepth 20000 in
theorem gk_34 : 34 < gw_n ∧ gw_kd 34 = (0, 8, []) := ⟨by decide, rfl⟩
set_option maxRecDepth 20000 in
theorem gk_35 : 35 < gw_n ∧ gw_kd 35 = (0, 8, []) := ⟨by decide, rfl⟩
set_option maxRecDepth 20000 in
theorem gk_36 : 36 < gw_n ∧ gw_kd 36 = (0, 14, []) := ⟨by decide, rfl⟩
set_option maxRecDepth 20000 in
theorem gk_37 : 37 < gw_n ∧ gw_kd 37 = (0, 14, []) := ⟨by decide, rfl⟩
set_option maxRecDepth 20000 in
theorem gk_38 : 38 < gw_n ∧ gw_kd 38 = (0, 14, []) := ⟨by decide, rfl⟩
set_option maxRecDepth 20000 in
theorem gk_39 : 39 < gw_n ∧ gw_kd 39 = (0, 14, []) := ⟨by decide, rfl⟩
set_option maxRecDepth 20000 in
theorem gk_40 : 40 < gw_n ∧ gw_kd 40 = (0, 14, []) := ⟨by decide, rfl⟩
set_option maxRecDepth 20000 in
theorem gk_41 : 41 < gw_n ∧ gw_kd 41 = (7, 0, [none, some 42, some 43, some 44, none, some 45, some 46, some 47, some 48, some 49]) := ⟨by decide, rfl⟩
set_option maxRecDepth 20000 in
theorem gk_42 : 42 < gw_n ∧ gw_kd 42 = (0, 8, []) := ⟨by decide, rfl⟩
set_option maxRecDepth 20000 in
theorem gk_43 : 43 < gw_n ∧ gw_kd 43 = (0, 8, []) := ⟨by decide, rfl⟩
set_option maxRecDepth 20000 in
theorem gk_44 : 44 < gw_n ∧ gw_kd 44 = (0, 8, []) := ⟨by decide, rfl⟩
set_option maxRecDepth 20000 in
theorem gk_45 : 45 < gw_n ∧ gw_kd 45 = (0, 14, []) := ⟨by decide, rfl⟩
set_option maxRecDepth 20000 in
theorem gk_46 : 46 < gw_n ∧ gw_kd 46 = (0, 14, []) := ⟨by decide, rfl⟩
set_option maxRecDepth 20000 in
theorem gk_47 : 47 < gw_n ∧ gw_kd 47 = (0, 14, []) := ⟨by decide, rfl⟩
set_option maxRecDepth 20000 in
theorem gk_48 : 48 < gw_n ∧ gw_kd 48 = (0, 14, []) := ⟨by decide, rfl⟩
set_option maxRecDepth 20000 in
theorem gk_49 : 49 < gw_n ∧ gw_kd 49 = (0, 14, []) := ⟨by decide, rfl⟩
set_option maxRecDepth 20000 in
theorem gk_50 : 50 < gw_n ∧ gw_kd 50 = (7, 0, [none, some 51, some 52, some 53, none, some 54, some 55, some 56, some 57, some 58]) := ⟨by decide, rfl⟩
set_option maxRecDepth 20000 in
theorem gk_51 : 51 < gw_n ∧ gw_kd 51 = (0, 8, []) := ⟨by decide, rfl⟩
set_option maxRecDepth 20000 in
theorem gk_52 : 52 < gw_n ∧ gw_kd 52 = (0, 8, []) := ⟨by decide, rfl⟩
set_option maxRecDepth 20000 in
theorem gk_53 : 53 < gw_n ∧ gw_kd 53 = (0, 8, []) := ⟨by decide, rfl⟩
set_option maxRecDepth 20000 in
theorem gk_54 : 54 < gw_n ∧ gw_kd 54 = (0, 14, []) := ⟨by decide, rfl⟩
set_option maxRecDepth 20000 in
theorem gk_55 : 55 < gw_n ∧ gw_kd 55 = (0, 14, []) := ⟨by decide, rfl⟩
set_option maxRecDepth 20000 in
theorem gk_56 : 56 < gw_n ∧ gw_kd 56 = (0, 14, []) := ⟨by decide, rfl⟩
set_option maxRecDepth 20000 in
theorem gk_57 : 57 < gw_n ∧ gw_kd 57 = (0, 14, []) := ⟨by decide, rfl⟩
set_option maxRecDepth 20000 in
theorem gk_58 : 58 < gw_n ∧ gw_kd 58 = (0, 14, []) := ⟨by decide, rfl⟩
set_option maxRecDepth 20000 in
theorem gk_59 : 59 < gw_n ∧ gw_kd 59 = (7, 0, [none, some 60, some 61, some 62, none, some 63, some 64, some 65, some 66, some 67]) := ⟨by decide, rfl⟩
set_option maxRecDepth 20000 in
theorem gk_60 : 60 < gw_n ∧ gw_kd 60 = (0, 8, []) := ⟨by decide, rfl⟩
set_option maxRecDepth 20000 in
theorem gk_61 : 61 < gw_n ∧ gw_kd 61 = (0, 8, []) := ⟨by decide, rfl⟩
set_option maxRecDepth 20000 in
theorem gk_62 : 62 < gw_n ∧ gw_kd 62 = (0, 8, []) := ⟨by decide, rfl⟩
set_option maxRecDepth 20000 in
theorem gk_63 : 63 < gw_n ∧ gw_kd 63 = (0, 14, []) := ⟨by decide, rfl⟩
set_option maxRecDepth 20000 in
theorem gk_64 : 64 < gw_n ∧ gw_kd 64 = (0, 14, []) := ⟨by decide, rfl⟩
set_option maxRecDepth 20000 in
theorem gk_65 : 65 < gw_n ∧ gw_kd 65 = (0, 14, []) := ⟨by decide, rfl⟩
set_option maxRecDepth 20000 in
theorem gk_66 : 66 < gw_n ∧ gw_kd 66 = (0, 14, []) := ⟨by decide, rfl⟩
set_option maxRecDepth 20000 in
theorem gk_67 : 67 < gw_n ∧ gw_kd 67 = (0, 14, []) := ⟨by decide, rfl⟩
set_option maxRecDepth 20000 in
theorem gk_68 : 68 < gw_n ∧ gw_kd 68 = (7, 0, [none, some 69, some 70, some 71, none, some 72, some 73, some 74, some 75, some 76]) := ⟨by decide, rfl⟩
set_option maxRecDepth 20000 in
theorem gk_69 : 69 < gw_n ∧ gw_kd 69 = (0, 8, []) := ⟨by decide, rfl⟩
set_option maxRecDepth 20000 in
theorem gk_70 : 70 < gw_n ∧ gw_kd 70 = (0, 8, []) := ⟨by decide, rfl⟩
set_option maxRecDepth 20000 in
theorem gk_71 : 71 < gw_n ∧ gw_kd 71 = (0, 8, []) := ⟨by decide, rfl⟩
set_option maxRecDepth 20000 in
theorem gk_72 : 72 < gw_n ∧ gw_kd 72 = (0, 14, []) := ⟨by decide, rfl⟩
set_option maxRecDepth 20000 in
theorem gk_73 : 73 < gw_n ∧ gw_kd 73 = (0, 14, []) := ⟨by decide, rfl⟩
set_option maxRecDepth 20000 in
theorem gk_74 : 74 < gw_n ∧ gw_kd 74 = (0, 14, []) := ⟨by decide, rfl⟩
set_option maxRecDepth 20000 in
theorem gk_75 : 75 < gw_n ∧ gw_kd 75 = (0, 14, []) := ⟨by decide, rfl⟩
set_option maxRecDepth 20000 in
theorem gk_76 : 76 < gw_n ∧ gw_kd 76 = (0, 14, []) := ⟨by decide, rfl⟩
set_option maxRecDepth 20000 in
theorem gk_77 : 77 < gw_n ∧ gw_kd 77 = (7, 0, [none, some 78, some 79, some 80, none, some 81, some 82, some 83, some 84, some 85]) := ⟨by decide, rfl⟩
set_option maxRecDepth 20000 in
theorem gk_78 : 78 < gw_n ∧ gw_kd 78 = (0, 8, []) := ⟨by decide, rfl⟩
set_option maxRecDepth 20000 in
theorem gk_79 : 79 < gw_n ∧ gw_kd 79 = (0, 8, []) := ⟨by decide, rfl⟩
set_option maxRecDepth 20000 in
theorem gk_80 : 80 < gw_n ∧ gw_kd 80 = (0, 8, []) := ⟨by decide, rfl⟩
set_option maxRecDepth 20000 in
theorem gk_81 : 81 < gw_n ∧ gw_kd 81 = (0, 14, []) := ⟨by decide, rfl⟩
set_option maxRecDepth 20000 in
theorem gk_82 : 82 < gw_n ∧ gw_kd 82 = (0, 14, []) := ⟨by decide, rfl⟩
set_option maxRecDepth 20000 in
theorem gk_83 : 83 < gw_n ∧ gw_kd 83 = (0, 14, []) := ⟨by decide, rfl⟩
set_option maxRecDepth 20000 in
theorem gk_84 : 84 < gw_n ∧ gw_kd 84 = (0, 14, []) := ⟨by decide, rfl⟩
set_option maxRecDepth 20000 in
theorem gk_85 : 85 < gw_n ∧ gw_kd 85 = (0, 14, []) := ⟨by decide, rfl⟩
set_option maxRecDepth 20000 in
theorem gk_86 : 86 < gw_n ∧ gw_kd 86 = (7, 0, [none, some 87, some 88, some 89, none, some 90, some 91, some 92, some 93, some 94]) := ⟨by decide, rfl⟩
set_option maxRecDepth 20000 in
theorem gk_87 : 87 < gw_n ∧ gw_kd 87 = (0, 8, []) := ⟨by decide, rfl⟩
set_option maxRecDepth 20000 in
theorem gk_88 : 88 < gw_n ∧ gw_kd 88 = (0, 8, []) := ⟨by decide, rfl⟩
set_option maxRecDepth 20000 in
theorem gk_89 : 89 < gw_n ∧ gw_kd 89 = (0, 8, []) := ⟨by decide, rfl⟩
set_option maxRecDepth 20000 in
theorem gk_90 : 90 < gw_n ∧ gw_kd 90 = (0, 14, []) := ⟨by decide, rfl⟩
set_option maxRecDepth 20000 in
theorem gk_91 : 91 < gw_n ∧ gw_kd 91 = (0, 14, []) := ⟨by decide, rfl⟩
set_option maxRecDepth 20000 in
theorem gk_92 : 92 < gw_n ∧ gw_kd 92 = (0, 14, []) := ⟨by decide, rfl⟩
set_option maxRecDepth 20000 in
theorem gk_93 : 93 < gw_n ∧ gw_kd 93 = (0, 14, []) := ⟨by decide, rfl⟩
set_option maxRecDepth 20000 in
theorem gk_94 : 94 < gw_n ∧ gw_kd 94 = (0, 14, []) := ⟨by decide, rfl⟩
set_option maxRecDepth 20000 in
theorem gk_95 : 95 < gw_n ∧ gw_kd 95 = (7, 0, [none, some 96, some 97, some 98, none, some 99, some 100, some 101, some 102, some 103]) := ⟨by decide, rfl⟩
set_option maxRecDepth 20000 in
theorem gk_96 : 96 < gw_n ∧ gw_kd 96 = (0, 8, []) := ⟨by decide, rfl⟩
set_option maxRecDepth 20000 in
theorem gk_97 : 97 < gw_n ∧ gw_kd 97 = (0, 8, []) := ⟨by decide, rfl⟩
set_option maxRecDepth 20000 in
theorem gk_98 : 98 < gw_n ∧ gw_kd 98 = (0, 8, []) := ⟨by decide, rfl⟩
set_option maxRecDepth 20000 in
theorem gk_99 : 99 < gw_n ∧ gw_kd 99 = (0, 14, []) := ⟨by decide, rfl⟩
set_option maxRecDepth 20000 in
theorem gk_100 : 100 < gw_n ∧ gw_kd 100 = (0, 14, []) := ⟨by decide, rfl⟩
set_option maxRecDepth 20000 in
theorem gk_101 : 101 < gw_n ∧ gw_kd 101 = (0, 14, []) := ⟨by decide, rfl⟩
set_option maxRecDepth 20000 in
theorem gk_102 : 102 < gw_n ∧ gw_kd 102 = (0, 14, []) := ⟨by decide, rfl⟩
set_option maxRecDepth 20000 in
theorem gk_103 : 103 < gw_n ∧ gw_kd 103 = (0, 14, []) := ⟨by decide, rfl⟩
set_option maxRecDepth 20000 in
theorem gk_104 : 104 < gw_n ∧ gw_kd 104 = (7, 0, [none, some 105, some 106, some 107, none, some 108, some 109, some 110, some 111, some 112]) := ⟨by decide, rfl⟩
set_option maxRecDepth 20000 in
theorem gk_105 : 105 < gw_n ∧ gw_kd 105 = (0, 8, []) := ⟨by decide, rfl⟩
set_option maxRecDepth 20000 in
theorem gk_106 : 106 < gw_n ∧ gw_kd 106 = (0, 8, []) := ⟨by decide, rfl⟩
set_option maxRecDepth 20000 in
theorem gk_107 : 107 < gw_n ∧ gw_kd 107 = (0, 8, []) := ⟨by decide, rfl⟩
set_option maxRecDepth 20000 in
theorem gk_108 : 108 < gw_n ∧ gw_kd 108 = (0, 14, []) := ⟨by decide, rfl⟩
set_option maxRecDepth 20000 in
theorem gk_109 : 109 < gw_n ∧ gw_kd 109 = (0, 14, []) := ⟨by decide, rfl⟩
set_option maxRecDepth 20000 in
theorem gk_110 : 110 < gw_n ∧ gw_kd 110 = (0, 14, []) := ⟨by decide, rfl⟩
set_option maxRecDepth 20000 in
theorem gk_111 : 111 < gw_n ∧ gw_kd 111 = (0, 14, []) := ⟨by decide, rfl⟩
set_option maxRecDepth 20000 in
theorem gk_112 : 112 < gw_n ∧ gw_kd 112 = (0, 14, []) := ⟨by decide, rfl⟩
set_option maxRecDepth 20000 in
theorem gk_113 : 113 < gw_n ∧ gw_kd 113 = (7, 0, [none, some 114, some 115, some 116, none, some 117, some 118, some 119, some 120, some 121]) := ⟨by decide, rfl⟩
set_option maxRecDepth 20000 in
theorem gk_114 : 114 < gw_n ∧ gw_kd 114 = (0, 8, []) := ⟨by decide, rfl⟩
set_option maxRecDepth 20000 in
theorem gk_115 : 115 < gw_n ∧ gw_kd 115 = (0, 8, []) := ⟨by decide, rfl⟩
set_option maxRecDepth 20000 in
theorem gk_116 : 116 < gw_n ∧ gw_kd 116 = (0, 8, []) := ⟨by decide, rfl⟩
set_option maxRecDepth 20000 in
theorem gk_117 : 117 < gw_n ∧ gw_kd 117 = (0, 14, []) := ⟨by decide, rfl⟩
set_option maxRecDepth 20000 in
theorem gk_118 : 118 < gw_n ∧ gw_kd 118 = (0, 14, []) := ⟨by decide, rfl⟩
set_option maxRecDepth 20000 in
theorem gk_119 : 119 < gw_n ∧ gw_kd 119 = (0, 14, []) := ⟨by decide, rfl⟩
set_option maxRecDepth 20000 in
theorem gk_120 : 120 < gw_n ∧ gw_kd 120 = (0, 14, []) := ⟨by decide, rfl⟩
set_option maxRecDepth 20000 in
theorem gk_121 : 121 < gw_n ∧ gw_kd 121 = (0, 14, []) := ⟨by decide, rfl⟩
set_option maxRecDepth 20000 in
theorem gk_122 : 122 < gw_n ∧ gw_kd 122 = (7, 0, [none, some 123, some 124, some 125, none, some 126, some 127, some 128, some 129, some 130]) := ⟨by decide, rfl⟩
set_option maxRecDepth 20000 in
theorem gk_123 : 123 < gw_n ∧ gw_kd 123 = (0, 8, []) := ⟨by decide, rfl⟩
set_option maxRecDepth 20000 in
theorem gk_124 : 124 < gw_n ∧ gw_kd 124 = (0, 8, []) := ⟨by decide, rfl⟩
set_option maxRecDepth 20000 in
theorem gk_125 : 125 < gw_n ∧ gw_kd 125 = (0, 8, []) := ⟨by decide, rfl⟩
set_option maxRecDepth 20000 in
theorem gk_126 : 126 < gw_n ∧ gw_kd 126 = (0, 14, []) := ⟨by decide, rfl⟩
set_option maxRecDepth 20000 in
theorem gk_127 : 127 < gw_n ∧ gw_kd 127 = (0, 14, []) := ⟨by decide, rfl⟩
set_option maxRecDepth 20000 in
theorem gk_128 : 128 < gw_n ∧ gw_kd 128 = (0, 14, []) := ⟨by decide, rfl⟩
set_option maxRecDepth 20000 in
theorem gk_129 : 129 < gw_n ∧ gw_kd 129 = (0, 14, []) := ⟨by decide, rfl⟩
set_option maxRecDepth 20000 in
theorem gk_130 : 130 < gw_n ∧ gw_kd 130 = (0, 14, []) := ⟨by decide, rfl⟩
set_option maxRecDepth 20000 in
theorem gk_131 : 131 < gw_n ∧ gw_kd 131 = (7, 0, [none, some 132, some 133, some 134, none, some 135, some 136, some 137, some 138, some 139]) := ⟨by decide, rfl⟩
set_option maxRecDepth 20000 in
theorem gk_132 : 132 < gw_n ∧ gw_kd 132 = (0, 8, []) := ⟨by decide, rfl⟩
set_option maxRecDepth 20000 in
theorem gk_133 : 133 < gw_n ∧ gw_kd 133 = (0, 8, []) := ⟨by decide, rfl⟩
set_option maxRecDepth 20000 in
theorem gk_134 : 134 < gw_n ∧ gw_kd 134 = (0, 8, []) := ⟨by decide, rfl⟩
set_option maxRecDepth 20000 in
theorem gk_135 : 135 < gw_n ∧ gw_kd 135 = (0, 14, []) := ⟨by decide, rfl⟩
set_option maxRecDepth 20000 in
theorem gk_136 : 136 < gw_n ∧ gw_kd 136 = (0, 14, []) := ⟨by decide, rfl⟩
set_option maxRecDepth 20000 in
theorem gk_137 : 137 < gw_n ∧ gw_kd 137 = (0, 14, []) := ⟨by decide, rfl⟩
set_option maxRecDepth 20000 in
theorem gk_138 : 138 < gw_n ∧ gw_kd 138 = (0, 14, []) := ⟨by decide, rfl⟩
set_option maxRecDepth 20000 in
theorem gk_139 : 139 < gw_n ∧ gw_kd 139 = (0, 14, []) := ⟨by decide, rfl⟩
set_option maxRecDepth 20000 in
theorem gk_140 : 140 < gw_n ∧ gw_kd 140 = (4, 2, [some 171, some 180]) := ⟨by decide, rfl⟩
set_option maxRecDepth 20000 in
theorem gk_141 : 141 < gw_n ∧ gw_kd 141 = (1, 2, []) := ⟨by decide, rfl⟩
set_option maxRecDepth 20000 in
theorem gk_142 : 142 < gw_n ∧ gw_kd 142 = (7, 0, [none, some 143, some 144, some 145, none, some 146, some 147, some 148, some 149, some 150]) := ⟨by decide, rfl⟩
set_option maxRecDepth 20000 in
theorem gk_143 : 143 < gw_n ∧ gw_kd 143 = (0, 8, []) := ⟨by decide, rfl⟩
set_option maxRecDepth 20000 in
theorem gk_144 : 144 < gw_n ∧ gw_kd 144 = (0, 8, []) := ⟨by decide, rfl⟩
set_option maxRecDepth 20000 in
theorem gk_145 : 145 < gw_n ∧ gw_kd 145 = (0, 8, []) := ⟨by decide, rfl⟩
set_option maxRecDepth 20000 in
theorem gk_146 : 146 < gw_n ∧ gw_kd 146 = (0, 14, []) := ⟨by decide, rfl⟩
set_option maxRecDepth 20000 in
theorem gk_147 : 147 < gw_n ∧ gw_kd 147 = (0, 14, []) := ⟨by decide, rfl⟩
set_option maxRecDepth 20000 in
theorem gk_148 : 148 < gw_n ∧ gw_kd 148 = (0, 14, []) := ⟨by decide, rfl⟩
set_option maxRecDepth 20000 in
theorem gk_149 : 149 < gw_n ∧ gw_kd 149 = (0, 14, []) := ⟨by decide, rfl⟩
set_option maxRecDepth 20000 in
theorem gk_150 : 150 < gw_n ∧ gw_kd 150 = (0, 14, []) := ⟨by decide, rfl⟩
set_option maxRecDepth 20000 in
theorem gk_151 : 151 < gw_n ∧ gw_kd 151 = (5, 0, [some 152, some 154, some 163, some 164, some 165, some 166, none, none, none]) := ⟨by decide, rfl⟩
set_option maxRecDepth 20000 in
theorem gk_152 : 152 < gw_n ∧ gw_kd 152 = (8, 0, [some 153, none]) := ⟨by decide, rfl⟩
set_option maxRecDepth 20000 in
theorem gk_153 : 153 < gw_n ∧ gw_kd 153 = (0, 8, []) := ⟨by decide, rfl⟩
set_option maxRecDepth 20000 in
theorem gk_154 : 154 < gw_n ∧ gw_kd 154 = (7, 0, [none, some 155, some 156, some 157, none, some 158, some 159, some 160, some 161, some 162]) := ⟨by decide, rfl⟩
set_option maxRecDepth 20000 in
theorem gk_155 : 155 < gw_n ∧ gw_kd 155 = (0, 8, []) := ⟨by decide, rfl⟩
set_option maxRecDepth 20000 in
theorem gk_156 : 156 < gw_n ∧ gw_kd 156 = (0, 8, []) := ⟨by decide, rfl⟩
set_option maxRecDepth 20000 in
theorem gk_157 : 157 < gw_n ∧ gw_kd 157 = (0, 8, []) := ⟨by decide, rfl⟩
set_option maxRecDepth 20000 in
theorem gk_158 : 158 < gw_n ∧ gw_kd 158 = (0, 14, []) := ⟨by decide, rfl⟩
set_option maxRecDepth 20000 in
theorem gk_159 : 159 < gw_n ∧ gw_kd 159 = (0, 14, []) := ⟨by decide, rfl⟩
set_option maxRecDepth 20000 in
theorem gk_160 : 160 < gw_n ∧ gw_kd 160 = (0, 14, []) := ⟨by decide, rfl⟩
set_option maxRecDepth 20000 in
theorem gk_161 : 161 < gw_n ∧ gw_kd 161 = (0, 14, []) := ⟨by decide, rfl⟩
set_option maxRecDepth 20000 in
theorem gk_162 : 162 < gw_n ∧ gw_kd 162 = (0, 14, []) := ⟨by decide, rfl⟩
set_option maxRecDepth 20000 in
theorem gk_163 : 163 < gw_n ∧ gw_kd 163 = (0, 8, []) := ⟨by decide, rfl⟩
set_option maxRecDepth 20000 in
theorem gk_164 : 164 < gw_n ∧ gw_kd 164 = (0, 8, []) := ⟨by decide, rfl⟩
set_option maxRecDepth 20000 in
theorem gk_165 : 165 < gw_n ∧ gw_kd 165 = (0, 480, []) := ⟨by decide, rfl⟩
set_option maxRecDepth 20000 in
theorem gk_166 : 166 < gw_n ∧ gw_kd 166 = (0, 14, []) := ⟨by decide, rfl⟩
set_option maxRecDepth 20000 in
theorem gk_167 : 167 < gw_n ∧ gw_kd 167 = (8, 0, [some 168, none]) := ⟨by decide, rfl⟩
set_option maxRecDepth 20000 in
theorem gk_168 : 168 < gw_n ∧ gw_kd 168 = (0, 8, []) := ⟨by decide, rfl⟩
set_option maxRecDepth 20000 in
theorem gk_169 : 169 < gw_n ∧ gw_kd 169 = (10, 0, [some 170]) := ⟨by decide, rfl⟩
set_option maxRecDepth 20000 in
theorem gk_170 : 170 < gw_n ∧ gw_kd 170 = (0, 8, []) := ⟨by decide, rfl⟩
set_option maxRecDepth 20000 in
theorem gk_171 : 171 < gw_n ∧ gw_kd 171 = (7, 0, [none, some 172, some 173, some 174, none, some 175, some 176, some 177, some 178, some 179]) := ⟨by decide, rfl⟩
set_option maxRecDepth 20000 in
theorem gk_172 : 172 < gw_n ∧ gw_kd 172 = (0, 8, []) := ⟨by decide, rfl⟩
set_option maxRecDepth 20000 in
theorem gk_173 : 173 < gw_n ∧ gw_kd 173 = (0, 8, []) := ⟨by decide, rfl⟩
set_option maxRecDepth 20000 in
theorem gk_174 : 174 < gw_n ∧ gw_kd 174 = (0, 8, []) := ⟨by decide, rfl⟩
set_option maxRecDepth 20000 in
theorem gk_175 : 175 < gw_n ∧ gw_kd 175 = (0, 14, []) := ⟨by decide, rfl⟩
set_option maxRecDepth 20000 in
theorem gk_176 : 176 < gw_n ∧ gw_kd 176 = (0, 14, []) := ⟨by decide, rfl⟩
set_option maxRecDepth 20000 in
theorem gk_177 : 177 < gw_n ∧ gw_kd 177 = (0, 14, []) := ⟨by decide, rfl⟩
set_option maxRecDepth 20000 in
theorem gk_178 : 178 < gw_n ∧ gw_kd 178 = (0, 14, []) := ⟨by decide, rfl⟩
set_option maxRecDepth 20000 in
theorem gk_179 : 179 < gw_n ∧ gw_kd 179 = (0, 14, []) := ⟨by decide, rfl⟩
set_option maxRecDepth 20000 in
theorem gk_180 : 180 < gw_n ∧ gw_kd 180 = (7, 0, [none, some 181, some 182, some 183, none, some 184, some 185, some 186, some 187, some 188]) := ⟨by decide, rfl⟩
set_option maxRecDepth 20000 in
theorem gk_181 : 181 < gw_n ∧ gw_kd 181 = (0, 8, []) := ⟨by decide, rfl⟩
set_option maxRecDepth 20000 in
theorem gk_182 : 182 < gw_n ∧ gw_kd 182 = (0, 8, []) := ⟨by decide, rfl⟩
set_option maxRecDepth 20000 in
theorem gk_183 : 183 < gw_n ∧ gw_kd 183 = (0, 8, []) := ⟨by decide, rfl⟩
set_option maxRecDepth 20000 in
theorem gk_184 : 184 < gw_n ∧ gw_kd 184 = (0, 14, []) := ⟨by decide, rfl⟩
set_option maxRecDepth 20000 in
theorem gk_185 : 185 < gw_n ∧ gw_kd 185 = (0, 14, []) := ⟨by decide, rfl⟩
set_option maxRecDepth 20000 in
theorem gk_186 : 186 < gw_n ∧ gw_kd 186 = (0, 14, []) := ⟨by decide, rfl⟩
set_option maxRecDepth 20000 in
theorem gk_187 : 187 < gw_n ∧ gw_kd 187 = (0, 14, []) := ⟨by decide, rfl⟩
set_option maxRecDepth 20000 in
theorem gk_188 : 188 < gw_n ∧ gw_kd 188 = (0, 14, []) := ⟨by decide, rfl⟩
set_option maxRecDepth 20000 in
theorem gk_189 : 189 < gw_n ∧ gw_kd 189 = (12, 0, [none, some 190, none, none, none, none, some 191, some 192, some 193, some 194, none, some 195, some 196, some 197, some 198, none, some 199, some 200, some 201, some 202, none, some 203, none, some 204, some 205]) := ⟨by decide, rfl⟩
set_option maxRecDepth 20000 in
theorem gk_190 : 190 < gw_n ∧ gw_kd 190 = (0, 120, []) := ⟨by decide, rfl⟩
set_option maxRecDepth 20000 in
theorem gk_191 : 191 < gw_n ∧ gw_kd 191 = (0, 96, []) := ⟨by decide, rfl⟩
set_option maxRecDepth 20000 in
theorem gk_192 : 192 < gw_n ∧ gw_kd 192 = (0, 96, []) := ⟨by decide, rfl⟩
set_option maxRecDepth 20000 in
theorem gk_193 : 193 < gw_n ∧ gw_kd 193 = (0, 96, []) := ⟨by decide, rfl⟩
set_option maxRecDepth 20000 in
theorem gk_194 : 194 < gw_n ∧ gw_kd 194 = (0, 1344, []) := ⟨by decide, rfl⟩
set_option maxRecDepth 20000 in
theorem gk_195 : 195 < gw_n ∧ gw_kd 195 = (0, 192, []) := ⟨by decide, rfl⟩
set_option maxRecDepth 20000 in
theorem gk_196 : 196 < gw_n ∧ gw_kd 196 = (1, 2, []) := ⟨by decide, rfl⟩
set_option maxRecDepth 20000 in
theorem gk_197 : 197 < gw_n ∧ gw_kd 197 = (0, 8, []) := ⟨by decide, rfl⟩
set_option maxRecDepth 20000 in
theorem gk_198 : 198 < gw_n ∧ gw_kd 198 = (0, 8, []) := ⟨by decide, rfl⟩
set_option maxRecDepth 20000 in
theorem gk_199 : 199 < gw_n ∧ gw_kd 199 = (3, 8, []) := ⟨by decide, rfl⟩
set_option maxRecDepth 20000 in
theorem gk_200 : 200 < gw_n ∧ gw_kd 200 = (3, 8, []) := ⟨by decide, rfl⟩
set_option maxRecDepth 20000 in
theorem gk_201 : 201 < gw_n ∧ gw_kd 201 = (0, 8, []) := ⟨by decide, rfl⟩
set_option maxRecDepth 20000 in
theorem gk_202 : 202 < gw_n ∧ gw_kd 202 = (0, 480, []) := ⟨by decide, rfl⟩
set_option maxRecDepth 20000 in
theorem gk_203 : 203 < gw_n ∧ gw_kd 203 = (0, 14, []) := ⟨by decide, rfl⟩
set_option maxRecDepth 20000 in
theorem gk_204 : 204 < gw_n ∧ gw_kd 204 = (0, 64, []) := ⟨by decide, rfl⟩
set_option maxRecDepth 20000 in
theorem gk_205 : 205 < gw_n ∧ gw_kd 205 = (0, 96, []) := ⟨by decide, rfl⟩
set_option maxRecDepth 20000 in
theorem gk_206 : 206 < gw_n ∧ gw_kd 206 = (3, 1, []) := ⟨by decide, rfl⟩
set_option maxRecDepth 20000 in
theorem gp_3 : gw_plan 3 := ⟨by decide, rfl, rfl, rfl, rfl, rfl, rfl, rfl, rfl, rfl⟩
set_option maxRecDepth 20000 in
theorem gp_142 : gw_plan 142 := ⟨by decide, rfl, rfl, rfl, rfl, rfl, rfl, rfl, rfl, rfl⟩
set_option maxRecDepth 20000 in
theorem gp_154 : gw_plan 154 := ⟨by decide, rfl, rfl, rfl, rfl, rfl, rfl, rfl, rfl, rfl⟩
set_option maxRecDepth 20000 in
theorem gp_171 : gw_plan 171 := ⟨by decide, rfl, rfl, rfl, rfl, rfl, rfl, rfl, rfl, rfl⟩
set_option maxRecDepth 20000 in
theorem gp_180 : gw_plan 180 := ⟨by decide, rfl, rfl, rfl, rfl, rfl, rfl, rfl, rfl, rfl⟩
set_option maxRecDepth 20000 in
theorem gp_14 : gw_plan 14 := ⟨by decide, rfl, rfl, rfl, rfl, rfl, rfl, rfl, rfl, rfl⟩
set_option maxRecDepth 20000 in
theorem gp_23 : gw_plan 23 := ⟨by decide, rfl, rfl, rfl, rfl, rfl, rfl, rfl, rfl, rfl⟩
set_option maxRecDepth 20000 in
theorem gp_32 : gw_plan 32 := ⟨by decide, rfl, rfl, rfl, rfl, rfl, rfl, rfl, rfl, rfl⟩
set_option maxRecDepth 20000 in
theorem gp_41 : gw_plan 41 := ⟨by decide, rfl, rfl, rfl, rfl, rfl, rfl, rfl, rfl, rfl⟩
set_option maxRecDepth 20000 in
theorem gp_50 : gw_plan 50 := ⟨by decide, rfl, rfl, rfl, rfl, rfl, rfl, rfl, rfl, rfl⟩
set_option maxRecDepth 20000 in
theorem gp_59 : gw_plan 59 := ⟨by decide, rfl, rfl, rfl, rfl, rfl, rfl, rfl, rfl, rfl⟩
set_option maxRecDepth 20000 in
theorem gp_68 : gw_plan 68 := ⟨by decide, rfl, rfl, rfl, rfl, rfl, rfl, rfl, rfl, rfl⟩
set_option maxRecDepth 20000 in
theorem gp_77 : gw_plan 77 := ⟨by decide, rfl, rfl, rfl, rfl, rfl, rfl, rfl, rfl, rfl⟩
set_option maxRecDepth 20000 in
theorem gp_86 : gw_plan 86 := ⟨by decide, rfl, rfl, rfl, rfl, rfl, rfl, rfl, rfl, rfl⟩
set_option maxRecDepth 20000 in
theorem gp_95 : gw_plan 95 := ⟨by decide, rfl, rfl, rfl, rfl, rfl, rfl, rfl, rfl, rfl⟩
set_option maxRecDepth 20000 in
theorem gp_104 : gw_plan 104 := ⟨by decide, rfl, rfl, rfl, rfl, rfl, rfl, rfl, rfl, rfl⟩
set_option maxRecDepth 20000 in
theorem gp_113 : gw_plan 113 := ⟨by decide, rfl, rfl, rfl, rfl, rfl, rfl, rfl, rfl, rfl⟩
set_option maxRecDepth 20000 in
theorem gp_122 : gw_plan 122 := ⟨by decide, rfl, rfl, rfl, rfl, rfl, rfl, rfl, rfl, rfl⟩
set_option maxRecDepth 20000 in
theorem gp_131 : gw_plan 131 := ⟨by decide, rfl, rfl, rfl, rfl, rfl, rfl, rfl, rfl, rfl⟩
set_option maxRecDepth 20000 in
theorem gr_152 : gw_rates 152 := ⟨by decide, rfl, rfl⟩
set_option maxRecDepth 20000 in
theorem gr_167 : gw_rates 167 := ⟨by decide, rfl, rfl⟩
set_option maxRecDepth 20000 in
theorem gf_RX5_9 : gw_F RX5 9 4 0 := ⟨by decide, by decide, gl_RX5_9, rfl⟩
set_option maxRecDepth 20000 in
theorem gf_RX5_15 : gw_F RX5 15 4 1 := ⟨by decide, by decide, gl_RX5_15, rfl⟩
set_option maxRecDepth 20000 in
theorem gf_RX3_36 : gw_F RX3 36 2 0 := ⟨by decide, by decide, gl_RX3_36, rfl⟩
set_option maxRecDepth 20000 in
theorem gf_RX4_15 : gw_FN RX4 15 2 0 := ⟨by decide, by decide, gn_RX4_15, rfl⟩
set_option maxRecDepth 20000 in
theorem gf_RX0_60 : gw_FN RX0 60 2 0 := ⟨by decide, by decide, gn_RX0_60, rfl⟩
set_option maxRecDepth 20000 in
theorem gf_RX6_34 : gw_FN RX6 34 2 0 := ⟨by decide, by decide, gn_RX6_34, rfl⟩
set_option maxRecDepth 20000 in
theorem gf_RX7_113 : gw_FN RX7 113 2 0 := ⟨by decide, by decide, gn_RX7_113, rfl⟩
set_option maxRecDepth 20000 in
theorem gf_RX3_9 : gw_F RX3 9 2 1 := ⟨by decide, by decide, gl_RX3_9, rfl⟩
set_option maxRecDepth 20000 in
theorem gf_RX7_146 : gw_FN RX7 146 2 1 := ⟨by decide, by decide, gn_RX7_146, rfl⟩
set_option maxRecDepth 20000 in
theorem gf_RX3_15 : gw_F RX3 15 2 2 := ⟨by decide, by decide, gl_RX3_15, rfl⟩
set_option maxRecDepth 20000 in
theorem gf_RX7_150 : gw_FN RX7 150 2 2 := ⟨by decide, by decide, gn_RX7_150, rfl⟩
set_option maxRecDepth 20000 in
theorem gf_RX3_18 : gw_F RX3 18 2 3 := ⟨by decide, by decide, gl_RX3_18, rfl⟩
set_option maxRecDepth 20000 in
theorem gf_RX7_153 : gw_FN RX7 153 2 3 := ⟨by decide, by decide, gn_RX7_153, rfl⟩
set_option maxRecDepth 20000 in
theorem gf_RX3_40 : gw_F RX3 40 2 4 := ⟨by decide, by decide, gl_RX3_40, rfl⟩
set_option maxRecDepth 20000 in
theorem gf_RX6_15 : gw_FN RX6 15 2 4 := ⟨by decide, by decide, gn_RX6_15, rfl⟩
set_option maxRecDepth 20000 in
theorem gf_RX4_26 : gw_FN RX4 26 2 4 := ⟨by decide, by decide, gn_RX4_26, rfl⟩
set_option maxRecDepth 20000 in
theorem gf_RX0_70 : gw_FN RX0 70 2 4 := ⟨by decide, by decide, gn_RX0_70, rfl⟩
set_option maxRecDepth 20000 in
theorem gf_RX7_117 : gw_FN RX7 117 2 4 := ⟨by decide, by decide, gn_RX7_117, rfl⟩
set_option maxRecDepth 20000 in
theorem gf_RX3_21 : gw_F RX3 21 2 5 := ⟨by decide, by decide, gl_RX3_21, rfl⟩
set_option maxRecDepth 20000 in
theorem gf_RX6_21 : gw_FN RX6 21 2 5 := ⟨by decide, by decide, gn_RX6_21, rfl⟩
set_option maxRecDepth 20000 in
theorem gf_RX4_29 : gw_FN RX4 29 2 5 := ⟨by decide, by decide, gn_RX4_29, rfl⟩
set_option maxRecDepth 20000 in
theorem gf_RX7_166 : gw_FN RX7 166 2 5 := ⟨by decide, by decide, gn_RX7_166, rfl⟩
set_option maxRecDepth 20000 in
theorem gf_RX3_24 : gw_F RX3 24 2 6 := ⟨by decide, by decide, gl_RX3_24, rfl⟩
set_option maxRecDepth 20000 in
theorem gf_RX6_24 : gw_FN RX6 24 2 6 := ⟨by decide, by decide, gn_RX6_24, rfl⟩
set_option maxRecDepth 20000 in
theorem gf_RX4_35 : gw_FN RX4 35 2 6 := ⟨by decide, by decide, gn_RX4_35, rfl⟩
set_option maxRecDepth 20000 in
theorem gf_RX7_159 : gw_FN RX7 159 2 6 := ⟨by decide, by decide, gn_RX7_159, rfl⟩
set_option maxRecDepth 20000 in
theorem gf_RX3_27 : gw_F RX3 27 2 7 := ⟨by decide, by decide, gl_RX3_27, rfl⟩
set_option maxRecDepth 20000 in
theorem gf_RX4_32 : gw_FN RX4 32 2 7 := ⟨by decide, by decide, gn_RX4_32, rfl⟩
set_option maxRecDepth 20000 in
theorem gf_RX7_172 : gw_FN RX7 172 2 7 := ⟨by decide, by decide, gn_RX7_172, rfl⟩
set_option maxRecDepth 20000 in
theorem gf_RX3_30 : gw_F RX3 30 2 8 := ⟨by decide, by decide, gl_RX3_30, rfl⟩
set_option maxRecDepth 20000 in
theorem gf_RX4_38 : gw_FN RX4 38 2 8 := ⟨by decide, by decide, gn_RX4_38, rfl⟩
set_option maxRecDepth 20000 in
theorem gf_RX7_175 : gw_FN RX7 175 2 8 := ⟨by decide, by decide, gn_RX7_175, rfl⟩
set_option maxRecDepth 20000 in
theorem gf_RX3_33 : gw_F RX3 33 2 9 := ⟨by decide, by decide, gl_RX3_33, rfl⟩
set_option maxRecDepth 20000 in
theorem gf_RX6_27 : gw_FN RX6 27 2 9 := ⟨by decide, by decide, gn_RX6_27, rfl⟩
set_option maxRecDepth 20000 in
theorem gf_RX0_73 : gw_FN RX0 73 2 9 := ⟨by decide, by decide, gn_RX0_73, rfl⟩
set_option maxRecDepth 20000 in
theorem gf_RX7_178 : gw_FN RX7 178 2 9 := ⟨by decide, by decide, gn_RX7_178, rfl⟩
set_option maxRecDepth 20000 in
theorem gf_RX2_11 : gw_F RX2 11 1 0 := ⟨by decide, by decide, gl_RX2_11, rfl⟩
set_option maxRecDepth 20000 in
theorem gf_RX2_22 : gw_F RX2 22 1 1 := ⟨by decide, by decide, gl_RX2_22, rfl⟩
set_option maxRecDepth 20000 in
theorem gf_RX2_18 : gw_F RX2 18 1 2 := ⟨by decide, by decide, gl_RX2_18, rfl⟩
set_option maxRecDepth 20000 in
theorem gf_RX4_9 : gw_F RX4 9 3 0 := ⟨by decide, by decide, gl_RX4_9, rfl⟩
set_option maxRecDepth 20000 in
theorem gf_RX0_63 : gw_FN RX0 63 3 0 := ⟨by decide, by decide, gn_RX0_63, rfl⟩
set_option maxRecDepth 20000 in
theorem gf_RX7_156 : gw_FN RX7 156 3 0 := ⟨by decide, by decide, gn_RX7_156, rfl⟩
set_option maxRecDepth 20000 in
theorem gf_RX4_21 : gw_F RX4 21 3 1 := ⟨by decide, by decide, gl_RX4_21, rfl⟩
set_option maxRecDepth 20000 in
theorem gf_RX0_12 : gw_F RX0 12 0 0 := ⟨by decide, by decide, gl_RX0_12, rfl⟩
set_option maxRecDepth 20000 in
theorem gf_RX0_21 : gw_F RX0 21 0 1 := ⟨by decide, by decide, gl_RX0_21, rfl⟩
set_option maxRecDepth 20000 in
theorem gf_RX0_25 : gw_F RX0 25 0 2 := ⟨by decide, by decide, gl_RX0_25, rfl⟩
set_option maxRecDepth 20000 in
theorem gf_RX0_29 : gw_F RX0 29 0 3 := ⟨by decide, by decide, gl_RX0_29, rfl⟩
set_option maxRecDepth 20000 in
theorem gf_RX0_32 : gw_F RX0 32 0 4 := ⟨by decide, by decide, gl_RX0_32, rfl⟩
set_option maxRecDepth 20000 in
theorem gf_RX0_35 : gw_F RX0 35 0 5 := ⟨by decide, by decide, gl_RX0_35, rfl⟩
set_option maxRecDepth 20000 in
theorem gf_RX7_255 : gw_FN RX7 255 0 5 := ⟨by decide, by decide, gn_RX7_255, rfl⟩
set_option maxRecDepth 20000 in
theorem gf_RX0_46 : gw_F RX0 46 0 6 := ⟨by decide, by decide, gl_RX0_46, rfl⟩
set_option maxRecDepth 20000 in
theorem gf_RX7_248 : gw_FN RX7 248 0 6 := ⟨by decide, by decide, gn_RX7_248, rfl⟩
set_option maxRecDepth 20000 in
theorem gf_RX0_54 : gw_F RX0 54 0 7 := ⟨by decide, by decide, gl_RX0_54, rfl⟩
set_option maxRecDepth 20000 in
theorem gf_RX0_57 : gw_F RX0 57 0 8 := ⟨by decide, by decide, gl_RX0_57, rfl⟩
set_option maxRecDepth 20000 in
theorem gf_RX7_252 : gw_FN RX7 252 0 8 := ⟨by decide, by decide, gn_RX7_252, rfl⟩
set_option maxRecDepth 20000 in
theorem gf_RX6_9 : gw_F RX6 9 5 0 := ⟨by decide, by decide, gl_RX6_9, rfl⟩
set_option maxRecDepth 20000 in
theorem gf_RX7_10 : gw_F RX7 10 6 0 := ⟨by decide, by decide, gl_RX7_10, rfl⟩
set_option maxRecDepth 20000 in
theorem gf_RX7_19 : gw_F RX7 19 6 1 := ⟨by decide, by decide, gl_RX7_19, rfl⟩
set_option maxRecDepth 20000 in
theorem gf_RX7_26 : gw_F RX7 26 6 2 := ⟨by decide, by decide, gl_RX7_26, rfl⟩
set_option maxRecDepth 20000 in
theorem gf_RX7_30 : gw_F RX7 30 6 3 := ⟨by decide, by decide, gl_RX7_30, rfl⟩
set_option maxRecDepth 20000 in
theorem gf_RX7_34 : gw_F RX7 34 6 4 := ⟨by decide, by decide, gl_RX7_34, rfl⟩
set_option maxRecDepth 20000 in
theorem gf_RX7_38 : gw_F RX7 38 6 5 := ⟨by decide, by decide, gl_RX7_38, rfl⟩
set_option maxRecDepth 20000 in
theorem gf_RX7_44 : gw_F RX7 44 6 6 := ⟨by decide, by decide, gl_RX7_44, rfl⟩
set_option maxRecDepth 20000 in
theorem gf_RX7_51 : gw_F RX7 51 6 7 := ⟨by decide, by decide, gl_RX7_51, rfl⟩
set_option maxRecDepth 20000 in
theorem gf_RX7_58 : gw_F RX7 58 6 8 := ⟨by decide, by decide, gl_RX7_58, rfl⟩
set_option maxRecDepth 20000 in
theorem gf_RX8_60 : gw_F RX8 60 7 0 := ⟨by decide, by decide, gl_RX8_60, rfl⟩
set_option maxRecDepth 20000 in
theorem gf_RX8_7 : gw_F RX8 7 7 1 := ⟨by decide, by decide, gl_RX8_7, rfl⟩
set_option maxRecDepth 20000 in
theorem gf_RX8_150 : gw_F RX8 150 7 2 := ⟨by decide, by decide, gl_RX8_150, rfl⟩
set_option maxRecDepth 20000 in
theorem gf_RX8_157 : gw_F RX8 157 7 3 := ⟨by decide, by decide, gl_RX8_157, rfl⟩
set_option maxRecDepth 20000 in
theorem gf_RX8_160 : gw_F RX8 160 7 4 := ⟨by decide, by decide, gl_RX8_160, rfl⟩
set_option maxRecDepth 20000 in
theorem gf_RX8_169 : gw_F RX8 169 7 5 := ⟨by decide, by decide, gl_RX8_169, rfl⟩
set_option maxRecDepth 20000 in
theorem gf_RX8_13 : gw_F RX8 13 7 6 := ⟨by decide, by decide, gl_RX8_13, rfl⟩
set_option maxRecDepth 20000 in
theorem gf_RX8_16 : gw_F RX8 16 7 7 := ⟨by decide, by decide, gl_RX8_16, rfl⟩
set_option maxRecDepth 20000 in
theorem gf_RX8_19 : gw_F RX8 19 7 8 := ⟨by decide, by decide, gl_RX8_19, rfl⟩
set_option maxRecDepth 20000 in
theorem gf_RX8_22 : gw_F RX8 22 7 9 := ⟨by decide, by decide, gl_RX8_22, rfl⟩
set_option maxRecDepth 20000 in
theorem gf_RX8_66 : gw_F RX8 66 7 10 := ⟨by decide, by decide, gl_RX8_66, rfl⟩
set_option maxRecDepth 20000 in
theorem gf_RX8_25 : gw_F RX8 25 7 11 := ⟨by decide, by decide, gl_RX8_25, rfl⟩
set_option maxRecDepth 20000 in
theorem gf_RX8_28 : gw_F RX8 28 7 12 := ⟨by decide, by decide, gl_RX8_28, rfl⟩
set_option maxRecDepth 20000 in
theorem gf_RX8_32 : gw_F RX8 32 7 13 := ⟨by decide, by decide, gl_RX8_32, rfl⟩
set_option maxRecDepth 20000 in
theorem gf_RX8_35 : gw_F RX8 35 7 14 := ⟨by decide, by decide, gl_RX8_35, rfl⟩
set_option maxRecDepth 20000 in
theorem gf_RX8_93 : gw_F RX8 93 7 15 := ⟨by decide, by decide, gl_RX8_93, rfl⟩
set_option maxRecDepth 20000 in
theorem gf_RX8_38 : gw_F RX8 38 7 16 := ⟨by decide, by decide, gl_RX8_38, rfl⟩
set_option maxRecDepth 20000 in
theorem gf_RX8_42 : gw_F RX8 42 7 17 := ⟨by decide, by decide, gl_RX8_42, rfl⟩
set_option maxRecDepth 20000 in
theorem gf_RX8_45 : gw_F RX8 45 7 18 := ⟨by decide, by decide, gl_RX8_45, rfl⟩
set_option maxRecDepth 20000 in
theorem gf_RX8_48 : gw_F RX8 48 7 19 := ⟨by decide, by decide, gl_RX8_48, rfl⟩
set_option maxRecDepth 20000 in
theorem gf_RX8_114 : gw_F RX8 114 7 20 := ⟨by decide, by decide, gl_RX8_114, rfl⟩
set_option maxRecDepth 20000 in
theorem gf_RX8_51 : gw_F RX8 51 7 21 := ⟨by decide, by decide, gl_RX8_51, rfl⟩
set_option maxRecDepth 20000 in
theorem gf_RX8_127 : gw_F RX8 127 7 22 := ⟨by decide, by decide, gl_RX8_127, rfl⟩
set_option maxRecDepth 20000 in
theorem gf_RX8_54 : gw_F RX8 54 7 23 := ⟨by decide, by decide, gl_RX8_54, rfl⟩
set_option maxRecDepth 20000 in
theorem gf_RX8_57 : gw_F RX8 57 7 24 := ⟨by decide, by decide, gl_RX8_57, rfl⟩
