theorem d_M_init_0 : decode b_M_init 0 = .ok (.aload_n 0, 1) := by decide +kernel
theorem d_M_init_1 : decode b_M_init 1 = .ok (.invokespecial 1, 3) := by decide +kernel
theorem d_M_init_4 : decode b_M_init 4 = .ok (.aload_n 0, 1) := by decide +kernel
theorem d_M_init_5 : decode b_M_init 5 = .ok (.bipush 90, 2) := by decide +kernel
theorem d_M_init_7 : decode b_M_init 7 = .ok (.newarray .int, 2) := by decide +kernel
theorem d_M_init_9 : decode b_M_init 9 = .ok (.putfield 7, 3) := by decide +kernel
theorem d_M_init_12 : decode b_M_init 12 = .ok (.aload_n 0, 1) := by decide +kernel
theorem d_M_init_13 : decode b_M_init 13 = .ok (.bipush 90, 2) := by decide +kernel
theorem d_M_init_15 : decode b_M_init 15 = .ok (.newarray .int, 2) := by decide +kernel
theorem d_M_init_17 : decode b_M_init 17 = .ok (.putfield 13, 3) := by decide +kernel
theorem d_M_init_20 : decode b_M_init 20 = .ok (.aload_n 0, 1) := by decide +kernel
theorem d_M_init_21 : decode b_M_init 21 = .ok (.bipush 90, 2) := by decide +kernel
theorem d_M_init_23 : decode b_M_init 23 = .ok (.newarray .int, 2) := by decide +kernel
theorem d_M_init_25 : decode b_M_init 25 = .ok (.putfield 16, 3) := by decide +kernel
theorem d_M_init_28 : decode b_M_init 28 = .ok (.aload_n 0, 1) := by decide +kernel
theorem d_M_init_29 : decode b_M_init 29 = .ok (.sipush 270, 3) := by decide +kernel
theorem d_M_init_32 : decode b_M_init 32 = .ok (.newarray .int, 2) := by decide +kernel
theorem d_M_init_34 : decode b_M_init 34 = .ok (.putfield 19, 3) := by decide +kernel
theorem d_M_init_37 : decode b_M_init 37 = .ok (.aload_n 0, 1) := by decide +kernel
theorem d_M_init_38 : decode b_M_init 38 = .ok (.bipush 90, 2) := by decide +kernel
theorem d_M_init_40 : decode b_M_init 40 = .ok (.newarray .int, 2) := by decide +kernel
theorem d_M_init_42 : decode b_M_init 42 = .ok (.putfield 22, 3) := by decide +kernel
theorem d_M_init_45 : decode b_M_init 45 = .ok (.aload_n 0, 1) := by decide +kernel
theorem d_M_init_46 : decode b_M_init 46 = .ok (.bipush 90, 2) := by decide +kernel
theorem d_M_init_48 : decode b_M_init 48 = .ok (.newarray .int, 2) := by decide +kernel
theorem d_M_init_50 : decode b_M_init 50 = .ok (.putfield 25, 3) := by decide +kernel
theorem d_M_init_53 : decode b_M_init 53 = .ok (.aload_n 0, 1) := by decide +kernel
theorem d_M_init_54 : decode b_M_init 54 = .ok (.bipush 90, 2) := by decide +kernel
theorem d_M_init_56 : decode b_M_init 56 = .ok (.newarray .boolean, 2) := by decide +kernel
theorem d_M_init_58 : decode b_M_init 58 = .ok (.putfield 28, 3) := by decide +kernel
theorem d_M_init_61 : decode b_M_init 61 = .ok (.aload_n 0, 1) := by decide +kernel
theorem d_M_init_62 : decode b_M_init 62 = .ok (.bipush 90, 2) := by decide +kernel
theorem d_M_init_64 : decode b_M_init 64 = .ok (.newarray .boolean, 2) := by decide +kernel
theorem d_M_init_66 : decode b_M_init 66 = .ok (.putfield 32, 3) := by decide +kernel
theorem d_M_init_69 : decode b_M_init 69 = .ok (.aload_n 0, 1) := by decide +kernel
theorem d_M_init_70 : decode b_M_init 70 = .ok (.bipush 6, 2) := by decide +kernel
theorem d_M_init_72 : decode b_M_init 72 = .ok (.newarray .int, 2) := by decide +kernel
theorem d_M_init_74 : decode b_M_init 74 = .ok (.dup, 1) := by decide +kernel
theorem d_M_init_75 : decode b_M_init 75 = .ok (.iconst 0, 1) := by decide +kernel
theorem d_M_init_76 : decode b_M_init 76 = .ok (.iconst (-1), 1) := by decide +kernel
theorem d_M_init_77 : decode b_M_init 77 = .ok (.iastore, 1) := by decide +kernel
theorem d_M_init_78 : decode b_M_init 78 = .ok (.dup, 1) := by decide +kernel
theorem d_M_init_79 : decode b_M_init 79 = .ok (.iconst 1, 1) := by decide +kernel
theorem d_M_init_80 : decode b_M_init 80 = .ok (.iconst (-1), 1) := by decide +kernel
theorem d_M_init_81 : decode b_M_init 81 = .ok (.iastore, 1) := by decide +kernel
theorem d_M_init_82 : decode b_M_init 82 = .ok (.dup, 1) := by decide +kernel
theorem d_M_init_83 : decode b_M_init 83 = .ok (.iconst 2, 1) := by decide +kernel
theorem d_M_init_84 : decode b_M_init 84 = .ok (.iconst (-1), 1) := by decide +kernel
theorem d_M_init_85 : decode b_M_init 85 = .ok (.iastore, 1) := by decide +kernel
theorem d_M_init_86 : decode b_M_init 86 = .ok (.dup, 1) := by decide +kernel
theorem d_M_init_87 : decode b_M_init 87 = .ok (.iconst 3, 1) := by decide +kernel
theorem d_M_init_88 : decode b_M_init 88 = .ok (.iconst (-1), 1) := by decide +kernel
theorem d_M_init_89 : decode b_M_init 89 = .ok (.iastore, 1) := by decide +kernel
theorem d_M_init_90 : decode b_M_init 90 = .ok (.dup, 1) := by decide +kernel
theorem d_M_init_91 : decode b_M_init 91 = .ok (.iconst 4, 1) := by decide +kernel
theorem d_M_init_92 : decode b_M_init 92 = .ok (.iconst (-1), 1) := by decide +kernel
theorem d_M_init_93 : decode b_M_init 93 = .ok (.iastore, 1) := by decide +kernel
theorem d_M_init_94 : decode b_M_init 94 = .ok (.dup, 1) := by decide +kernel
theorem d_M_init_95 : decode b_M_init 95 = .ok (.iconst 5, 1) := by decide +kernel
theorem d_M_init_96 : decode b_M_init 96 = .ok (.iconst (-1), 1) := by decide +kernel
theorem d_M_init_97 : decode b_M_init 97 = .ok (.iastore, 1) := by decide +kernel
theorem d_M_init_98 : decode b_M_init 98 = .ok (.putfield 35, 3) := by decide +kernel
theorem d_M_init_101 : decode b_M_init 101 = .ok (.aload_n 0, 1) := by decide +kernel
theorem d_M_init_102 : decode b_M_init 102 = .ok (.bipush 8, 2) := by decide +kernel
theorem d_M_init_104 : decode b_M_init 104 = .ok (.newarray .boolean, 2) := by decide +kernel
theorem d_M_init_106 : decode b_M_init 106 = .ok (.putfield 38, 3) := by decide +kernel
theorem d_M_init_109 : decode b_M_init 109 = .ok (.aload_n 0, 1) := by decide +kernel
theorem d_M_init_110 : decode b_M_init 110 = .ok (.bipush 8, 2) := by decide +kernel
theorem d_M_init_112 : decode b_M_init 112 = .ok (.newarray .boolean, 2) := by decide +kernel
theorem d_M_init_114 : decode b_M_init 114 = .ok (.putfield 41, 3) := by decide +kernel
theorem d_M_init_117 : decode b_M_init 117 = .ok (.aload_n 0, 1) := by decide +kernel
theorem d_M_init_118 : decode b_M_init 118 = .ok (.bipush 20, 2) := by decide +kernel
theorem d_M_init_120 : decode b_M_init 120 = .ok (.newarray .int, 2) := by decide +kernel
theorem d_M_init_122 : decode b_M_init 122 = .ok (.putfield 44, 3) := by decide +kernel
theorem d_M_init_125 : decode b_M_init 125 = .ok (.aload_n 0, 1) := by decide +kernel
theorem d_M_init_126 : decode b_M_init 126 = .ok (.bipush 20, 2) := by decide +kernel
theorem d_M_init_128 : decode b_M_init 128 = .ok (.newarray .int, 2) := by decide +kernel
theorem d_M_init_130 : decode b_M_init 130 = .ok (.putfield 47, 3) := by decide +kernel
theorem d_M_init_133 : decode b_M_init 133 = .ok (.aload_n 0, 1) := by decide +kernel
theorem d_M_init_134 : decode b_M_init 134 = .ok (.bipush 90, 2) := by decide +kernel
theorem d_M_init_136 : decode b_M_init 136 = .ok (.newarray .boolean, 2) := by decide +kernel
theorem d_M_init_138 : decode b_M_init 138 = .ok (.putfield 50, 3) := by decide +kernel
theorem d_M_init_141 : decode b_M_init 141 = .ok (.aload_n 0, 1) := by decide +kernel
theorem d_M_init_142 : decode b_M_init 142 = .ok (.bipush 90, 2) := by decide +kernel
theorem d_M_init_144 : decode b_M_init 144 = .ok (.newarray .boolean, 2) := by decide +kernel
theorem d_M_init_146 : decode b_M_init 146 = .ok (.putfield 53, 3) := by decide +kernel
theorem d_M_init_149 : decode b_M_init 149 = .ok (.aload_n 0, 1) := by decide +kernel
theorem d_M_init_150 : decode b_M_init 150 = .ok (.bipush 8, 2) := by decide +kernel
theorem d_M_init_152 : decode b_M_init 152 = .ok (.newarray .boolean, 2) := by decide +kernel
theorem d_M_init_154 : decode b_M_init 154 = .ok (.putfield 56, 3) := by decide +kernel
theorem d_M_init_157 : decode b_M_init 157 = .ok (.aload_n 0, 1) := by decide +kernel
theorem d_M_init_158 : decode b_M_init 158 = .ok (.bipush 90, 2) := by decide +kernel
theorem d_M_init_160 : decode b_M_init 160 = .ok (.newarray .int, 2) := by decide +kernel
theorem d_M_init_162 : decode b_M_init 162 = .ok (.putfield 59, 3) := by decide +kernel
theorem d_M_init_165 : decode b_M_init 165 = .ok (.return_, 1) := by decide +kernel
theorem d_M_isRoot_0 : decode b_M_isRoot 0 = .ok (.iload_n 0, 1) := by decide +kernel
theorem d_M_isRoot_1 : decode b_M_isRoot 1 = .ok (.ifCond .lt 13, 3) := by decide +kernel
theorem d_M_isRoot_4 : decode b_M_isRoot 4 = .ok (.iload_n 0, 1) := by decide +kernel
theorem d_M_isRoot_5 : decode b_M_isRoot 5 = .ok (.bipush 6, 2) := by decide +kernel
theorem d_M_isRoot_7 : decode b_M_isRoot 7 = .ok (.if_icmp .ge 7, 3) := by decide +kernel
theorem d_M_isRoot_10 : decode b_M_isRoot 10 = .ok (.iconst 1, 1) := by decide +kernel
theorem d_M_isRoot_11 : decode b_M_isRoot 11 = .ok (.goto 4, 3) := by decide +kernel
theorem d_M_isRoot_14 : decode b_M_isRoot 14 = .ok (.iconst 0, 1) := by decide +kernel
theorem d_M_isRoot_15 : decode b_M_isRoot 15 = .ok (.ireturn, 1) := by decide +kernel
theorem d_M_isFree_0 : decode b_M_isFree 0 = .ok (.iconst 0, 1) := by decide +kernel
theorem d_M_isFree_1 : decode b_M_isFree 1 = .ok (.istore_n 2, 1) := by decide +kernel
theorem d_M_isFree_2 : decode b_M_isFree 2 = .ok (.iload_n 2, 1) := by decide +kernel
theorem d_M_isFree_3 : decode b_M_isFree 3 = .ok (.bipush 90, 2) := by decide +kernel
theorem d_M_isFree_5 : decode b_M_isFree 5 = .ok (.if_icmp .ge 48, 3) := by decide +kernel
theorem d_M_isFree_8 : decode b_M_isFree 8 = .ok (.aload_n 0, 1) := by decide +kernel
theorem d_M_isFree_9 : decode b_M_isFree 9 = .ok (.getfield 7, 3) := by decide +kernel
theorem d_M_isFree_12 : decode b_M_isFree 12 = .ok (.iload_n 2, 1) := by decide +kernel
theorem d_M_isFree_13 : decode b_M_isFree 13 = .ok (.iaload, 1) := by decide +kernel
theorem d_M_isFree_14 : decode b_M_isFree 14 = .ok (.iconst 2, 1) := by decide +kernel
theorem d_M_isFree_15 : decode b_M_isFree 15 = .ok (.if_icmp .ne 32, 3) := by decide +kernel
theorem d_M_isFree_18 : decode b_M_isFree 18 = .ok (.iload_n 1, 1) := by decide +kernel
theorem d_M_isFree_19 : decode b_M_isFree 19 = .ok (.aload_n 0, 1) := by decide +kernel
theorem d_M_isFree_20 : decode b_M_isFree 20 = .ok (.getfield 25, 3) := by decide +kernel
theorem d_M_isFree_23 : decode b_M_isFree 23 = .ok (.iload_n 2, 1) := by decide +kernel
theorem d_M_isFree_24 : decode b_M_isFree 24 = .ok (.iaload, 1) := by decide +kernel
theorem d_M_isFree_25 : decode b_M_isFree 25 = .ok (.if_icmp .lt 22, 3) := by decide +kernel
theorem d_M_isFree_28 : decode b_M_isFree 28 = .ok (.iload_n 1, 1) := by decide +kernel
theorem d_M_isFree_29 : decode b_M_isFree 29 = .ok (.aload_n 0, 1) := by decide +kernel
theorem d_M_isFree_30 : decode b_M_isFree 30 = .ok (.getfield 25, 3) := by decide +kernel
theorem d_M_isFree_33 : decode b_M_isFree 33 = .ok (.iload_n 2, 1) := by decide +kernel
theorem d_M_isFree_34 : decode b_M_isFree 34 = .ok (.iaload, 1) := by decide +kernel
theorem d_M_isFree_35 : decode b_M_isFree 35 = .ok (.aload_n 0, 1) := by decide +kernel
theorem d_M_isFree_36 : decode b_M_isFree 36 = .ok (.getfield 16, 3) := by decide +kernel
theorem d_M_isFree_39 : decode b_M_isFree 39 = .ok (.iload_n 2, 1) := by decide +kernel
theorem d_M_isFree_40 : decode b_M_isFree 40 = .ok (.iaload, 1) := by decide +kernel
theorem d_M_isFree_41 : decode b_M_isFree 41 = .ok (.iadd, 1) := by decide +kernel
theorem d_M_isFree_42 : decode b_M_isFree 42 = .ok (.if_icmp .gt 5, 3) := by decide +kernel
theorem d_M_isFree_45 : decode b_M_isFree 45 = .ok (.iconst 0, 1) := by decide +kernel
theorem d_M_isFree_46 : decode b_M_isFree 46 = .ok (.ireturn, 1) := by decide +kernel
theorem d_M_isFree_47 : decode b_M_isFree 47 = .ok (.iinc 2 1, 3) := by decide +kernel
theorem d_M_isFree_50 : decode b_M_isFree 50 = .ok (.goto (-48), 3) := by decide +kernel
theorem d_M_isFree_53 : decode b_M_isFree 53 = .ok (.iconst 1, 1) := by decide +kernel
theorem d_M_isFree_54 : decode b_M_isFree 54 = .ok (.ireturn, 1) := by decide +kernel
theorem d_M_place_0 : decode b_M_place 0 = .ok (.iconst 0, 1) := by decide +kernel
theorem d_M_place_1 : decode b_M_place 1 = .ok (.istore_n 2, 1) := by decide +kernel
theorem d_M_place_2 : decode b_M_place 2 = .ok (.iconst 0, 1) := by decide +kernel
theorem d_M_place_3 : decode b_M_place 3 = .ok (.istore_n 3, 1) := by decide +kernel
theorem d_M_place_4 : decode b_M_place 4 = .ok (.iload_n 3, 1) := by decide +kernel
theorem d_M_place_5 : decode b_M_place 5 = .ok (.bipush 64, 2) := by decide +kernel
theorem d_M_place_7 : decode b_M_place 7 = .ok (.if_icmp .ge 36, 3) := by decide +kernel
theorem d_M_place_10 : decode b_M_place 10 = .ok (.aload_n 0, 1) := by decide +kernel
theorem d_M_place_11 : decode b_M_place 11 = .ok (.iload_n 3, 1) := by decide +kernel
theorem d_M_place_12 : decode b_M_place 12 = .ok (.invokevirtual 62, 3) := by decide +kernel
theorem d_M_place_15 : decode b_M_place 15 = .ok (.ifCond .eq 9, 3) := by decide +kernel
theorem d_M_place_18 : decode b_M_place 18 = .ok (.iload_n 2, 1) := by decide +kernel
theorem d_M_place_19 : decode b_M_place 19 = .ok (.iconst 1, 1) := by decide +kernel
theorem d_M_place_20 : decode b_M_place 20 = .ok (.iadd, 1) := by decide +kernel
theorem d_M_place_21 : decode b_M_place 21 = .ok (.goto 4, 3) := by decide +kernel
theorem d_M_place_24 : decode b_M_place 24 = .ok (.iconst 0, 1) := by decide +kernel
theorem d_M_place_25 : decode b_M_place 25 = .ok (.istore_n 2, 1) := by decide +kernel
theorem d_M_place_26 : decode b_M_place 26 = .ok (.iload_n 2, 1) := by decide +kernel
theorem d_M_place_27 : decode b_M_place 27 = .ok (.iload_n 1, 1) := by decide +kernel
theorem d_M_place_28 : decode b_M_place 28 = .ok (.if_icmp .ne 9, 3) := by decide +kernel
theorem d_M_place_31 : decode b_M_place 31 = .ok (.iload_n 3, 1) := by decide +kernel
theorem d_M_place_32 : decode b_M_place 32 = .ok (.iload_n 1, 1) := by decide +kernel
theorem d_M_place_33 : decode b_M_place 33 = .ok (.isub, 1) := by decide +kernel
theorem d_M_place_34 : decode b_M_place 34 = .ok (.iconst 1, 1) := by decide +kernel
theorem d_M_place_35 : decode b_M_place 35 = .ok (.iadd, 1) := by decide +kernel
theorem d_M_place_36 : decode b_M_place 36 = .ok (.ireturn, 1) := by decide +kernel
theorem d_M_place_37 : decode b_M_place 37 = .ok (.iinc 3 1, 3) := by decide +kernel
theorem d_M_place_40 : decode b_M_place 40 = .ok (.goto (-36), 3) := by decide +kernel
theorem d_M_place_43 : decode b_M_place 43 = .ok (.iconst (-1), 1) := by decide +kernel
theorem d_M_place_44 : decode b_M_place 44 = .ok (.ireturn, 1) := by decide +kernel
theorem d_M_lies_0 : decode b_M_lies 0 = .ok (.aload_n 0, 1) := by decide +kernel
theorem d_M_lies_1 : decode b_M_lies 1 = .ok (.getfield 7, 3) := by decide +kernel
theorem d_M_lies_4 : decode b_M_lies 4 = .ok (.iload_n 1, 1) := by decide +kernel
theorem d_M_lies_5 : decode b_M_lies 5 = .ok (.iaload, 1) := by decide +kernel
theorem d_M_lies_6 : decode b_M_lies 6 = .ok (.iconst 2, 1) := by decide +kernel
theorem d_M_lies_7 : decode b_M_lies 7 = .ok (.if_icmp .ne 43, 3) := by decide +kernel
theorem d_M_lies_10 : decode b_M_lies 10 = .ok (.aload_n 0, 1) := by decide +kernel
theorem d_M_lies_11 : decode b_M_lies 11 = .ok (.getfield 25, 3) := by decide +kernel
theorem d_M_lies_14 : decode b_M_lies 14 = .ok (.iload_n 1, 1) := by decide +kernel
theorem d_M_lies_15 : decode b_M_lies 15 = .ok (.iaload, 1) := by decide +kernel
theorem d_M_lies_16 : decode b_M_lies 16 = .ok (.bipush 8, 2) := by decide +kernel
theorem d_M_lies_18 : decode b_M_lies 18 = .ok (.iload_n 2, 1) := by decide +kernel
theorem d_M_lies_19 : decode b_M_lies 19 = .ok (.imul, 1) := by decide +kernel
theorem d_M_lies_20 : decode b_M_lies 20 = .ok (.bipush 8, 2) := by decide +kernel
theorem d_M_lies_22 : decode b_M_lies 22 = .ok (.iadd, 1) := by decide +kernel
theorem d_M_lies_23 : decode b_M_lies 23 = .ok (.if_icmp .ge 27, 3) := by decide +kernel
theorem d_M_lies_26 : decode b_M_lies 26 = .ok (.aload_n 0, 1) := by decide +kernel
theorem d_M_lies_27 : decode b_M_lies 27 = .ok (.getfield 25, 3) := by decide +kernel
theorem d_M_lies_30 : decode b_M_lies 30 = .ok (.iload_n 1, 1) := by decide +kernel
theorem d_M_lies_31 : decode b_M_lies 31 = .ok (.iaload, 1) := by decide +kernel
theorem d_M_lies_32 : decode b_M_lies 32 = .ok (.aload_n 0, 1) := by decide +kernel
theorem d_M_lies_33 : decode b_M_lies 33 = .ok (.getfield 16, 3) := by decide +kernel
theorem d_M_lies_36 : decode b_M_lies 36 = .ok (.iload_n 1, 1) := by decide +kernel
theorem d_M_lies_37 : decode b_M_lies 37 = .ok (.iaload, 1) := by decide +kernel
theorem d_M_lies_38 : decode b_M_lies 38 = .ok (.iadd, 1) := by decide +kernel
theorem d_M_lies_39 : decode b_M_lies 39 = .ok (.bipush 8, 2) := by decide +kernel
theorem d_M_lies_41 : decode b_M_lies 41 = .ok (.iload_n 2, 1) := by decide +kernel
theorem d_M_lies_42 : decode b_M_lies 42 = .ok (.imul, 1) := by decide +kernel
theorem d_M_lies_43 : decode b_M_lies 43 = .ok (.if_icmp .lt 7, 3) := by decide +kernel
theorem d_M_lies_46 : decode b_M_lies 46 = .ok (.iconst 1, 1) := by decide +kernel
theorem d_M_lies_47 : decode b_M_lies 47 = .ok (.goto 4, 3) := by decide +kernel
theorem d_M_lies_50 : decode b_M_lies 50 = .ok (.iconst 0, 1) := by decide +kernel
theorem d_M_lies_51 : decode b_M_lies 51 = .ok (.ireturn, 1) := by decide +kernel
theorem d_M_showsYoung_0 : decode b_M_showsYoung 0 = .ok (.iconst 0, 1) := by decide +kernel
theorem d_M_showsYoung_1 : decode b_M_showsYoung 1 = .ok (.istore_n 2, 1) := by decide +kernel
theorem d_M_showsYoung_2 : decode b_M_showsYoung 2 = .ok (.iload_n 2, 1) := by decide +kernel
theorem d_M_showsYoung_3 : decode b_M_showsYoung 3 = .ok (.bipush 90, 2) := by decide +kernel
theorem d_M_showsYoung_5 : decode b_M_showsYoung 5 = .ok (.if_icmp .ge 84, 3) := by decide +kernel
theorem d_M_showsYoung_8 : decode b_M_showsYoung 8 = .ok (.iconst 0, 1) := by decide +kernel
theorem d_M_showsYoung_9 : decode b_M_showsYoung 9 = .ok (.istore_n 3, 1) := by decide +kernel
theorem d_M_showsYoung_10 : decode b_M_showsYoung 10 = .ok (.aload_n 0, 1) := by decide +kernel
theorem d_M_showsYoung_11 : decode b_M_showsYoung 11 = .ok (.getfield 7, 3) := by decide +kernel
theorem d_M_showsYoung_14 : decode b_M_showsYoung 14 = .ok (.iload_n 2, 1) := by decide +kernel
theorem d_M_showsYoung_15 : decode b_M_showsYoung 15 = .ok (.iaload, 1) := by decide +kernel
theorem d_M_showsYoung_16 : decode b_M_showsYoung 16 = .ok (.iconst 2, 1) := by decide +kernel
theorem d_M_showsYoung_17 : decode b_M_showsYoung 17 = .ok (.if_icmp .ne 66, 3) := by decide +kernel
theorem d_M_showsYoung_20 : decode b_M_showsYoung 20 = .ok (.iload_n 3, 1) := by decide +kernel
theorem d_M_showsYoung_21 : decode b_M_showsYoung 21 = .ok (.aload_n 0, 1) := by decide +kernel
theorem d_M_showsYoung_22 : decode b_M_showsYoung 22 = .ok (.getfield 16, 3) := by decide +kernel
theorem d_M_showsYoung_25 : decode b_M_showsYoung 25 = .ok (.iload_n 2, 1) := by decide +kernel
theorem d_M_showsYoung_26 : decode b_M_showsYoung 26 = .ok (.iaload, 1) := by decide +kernel
theorem d_M_showsYoung_27 : decode b_M_showsYoung 27 = .ok (.if_icmp .ge 56, 3) := by decide +kernel
theorem d_M_showsYoung_30 : decode b_M_showsYoung 30 = .ok (.aload_n 0, 1) := by decide +kernel
theorem d_M_showsYoung_31 : decode b_M_showsYoung 31 = .ok (.getfield 19, 3) := by decide +kernel
theorem d_M_showsYoung_34 : decode b_M_showsYoung 34 = .ok (.iconst 3, 1) := by decide +kernel
theorem d_M_showsYoung_35 : decode b_M_showsYoung 35 = .ok (.iload_n 2, 1) := by decide +kernel
theorem d_M_showsYoung_36 : decode b_M_showsYoung 36 = .ok (.imul, 1) := by decide +kernel
theorem d_M_showsYoung_37 : decode b_M_showsYoung 37 = .ok (.iload_n 3, 1) := by decide +kernel
theorem d_M_showsYoung_38 : decode b_M_showsYoung 38 = .ok (.iadd, 1) := by decide +kernel
theorem d_M_showsYoung_39 : decode b_M_showsYoung 39 = .ok (.iaload, 1) := by decide +kernel
theorem d_M_showsYoung_40 : decode b_M_showsYoung 40 = .ok (.istore 4, 2) := by decide +kernel
theorem d_M_showsYoung_42 : decode b_M_showsYoung 42 = .ok (.aload_n 0, 1) := by decide +kernel
theorem d_M_showsYoung_43 : decode b_M_showsYoung 43 = .ok (.getfield 25, 3) := by decide +kernel
theorem d_M_showsYoung_46 : decode b_M_showsYoung 46 = .ok (.iload_n 2, 1) := by decide +kernel
theorem d_M_showsYoung_47 : decode b_M_showsYoung 47 = .ok (.iaload, 1) := by decide +kernel
theorem d_M_showsYoung_48 : decode b_M_showsYoung 48 = .ok (.iconst 1, 1) := by decide +kernel
theorem d_M_showsYoung_49 : decode b_M_showsYoung 49 = .ok (.iadd, 1) := by decide +kernel
theorem d_M_showsYoung_50 : decode b_M_showsYoung 50 = .ok (.iload_n 3, 1) := by decide +kernel
theorem d_M_showsYoung_51 : decode b_M_showsYoung 51 = .ok (.iadd, 1) := by decide +kernel
theorem d_M_showsYoung_52 : decode b_M_showsYoung 52 = .ok (.bipush 8, 2) := by decide +kernel
theorem d_M_showsYoung_54 : decode b_M_showsYoung 54 = .ok (.idiv, 1) := by decide +kernel
theorem d_M_showsYoung_55 : decode b_M_showsYoung 55 = .ok (.iload_n 1, 1) := by decide +kernel
theorem d_M_showsYoung_56 : decode b_M_showsYoung 56 = .ok (.if_icmp .ne 21, 3) := by decide +kernel
theorem d_M_showsYoung_59 : decode b_M_showsYoung 59 = .ok (.iload 4, 2) := by decide +kernel
theorem d_M_showsYoung_61 : decode b_M_showsYoung 61 = .ok (.ifCond .lt 16, 3) := by decide +kernel
theorem d_M_showsYoung_64 : decode b_M_showsYoung 64 = .ok (.aload_n 0, 1) := by decide +kernel
theorem d_M_showsYoung_65 : decode b_M_showsYoung 65 = .ok (.getfield 7, 3) := by decide +kernel
theorem d_M_showsYoung_68 : decode b_M_showsYoung 68 = .ok (.iload 4, 2) := by decide +kernel
theorem d_M_showsYoung_70 : decode b_M_showsYoung 70 = .ok (.iaload, 1) := by decide +kernel
theorem d_M_showsYoung_71 : decode b_M_showsYoung 71 = .ok (.iconst 1, 1) := by decide +kernel
theorem d_M_showsYoung_72 : decode b_M_showsYoung 72 = .ok (.if_icmp .ne 5, 3) := by decide +kernel
theorem d_M_showsYoung_75 : decode b_M_showsYoung 75 = .ok (.iconst 1, 1) := by decide +kernel
theorem d_M_showsYoung_76 : decode b_M_showsYoung 76 = .ok (.ireturn, 1) := by decide +kernel
theorem d_M_showsYoung_77 : decode b_M_showsYoung 77 = .ok (.iinc 3 1, 3) := by decide +kernel
theorem d_M_showsYoung_80 : decode b_M_showsYoung 80 = .ok (.goto (-70), 3) := by decide +kernel
theorem d_M_showsYoung_83 : decode b_M_showsYoung 83 = .ok (.iinc 2 1, 3) := by decide +kernel
theorem d_M_showsYoung_86 : decode b_M_showsYoung 86 = .ok (.goto (-84), 3) := by decide +kernel
theorem d_M_showsYoung_89 : decode b_M_showsYoung 89 = .ok (.iconst 0, 1) := by decide +kernel
theorem d_M_showsYoung_90 : decode b_M_showsYoung 90 = .ok (.ireturn, 1) := by decide +kernel
theorem d_M_becomeOld_0 : decode b_M_becomeOld 0 = .ok (.aload_n 0, 1) := by decide +kernel
theorem d_M_becomeOld_1 : decode b_M_becomeOld 1 = .ok (.getfield 7, 3) := by decide +kernel
theorem d_M_becomeOld_4 : decode b_M_becomeOld 4 = .ok (.iload_n 1, 1) := by decide +kernel
theorem d_M_becomeOld_5 : decode b_M_becomeOld 5 = .ok (.iconst 2, 1) := by decide +kernel
theorem d_M_becomeOld_6 : decode b_M_becomeOld 6 = .ok (.iastore, 1) := by decide +kernel
theorem d_M_becomeOld_7 : decode b_M_becomeOld 7 = .ok (.aload_n 0, 1) := by decide +kernel
theorem d_M_becomeOld_8 : decode b_M_becomeOld 8 = .ok (.getfield 25, 3) := by decide +kernel
theorem d_M_becomeOld_11 : decode b_M_becomeOld 11 = .ok (.iload_n 1, 1) := by decide +kernel
theorem d_M_becomeOld_12 : decode b_M_becomeOld 12 = .ok (.iload_n 2, 1) := by decide +kernel
theorem d_M_becomeOld_13 : decode b_M_becomeOld 13 = .ok (.iastore, 1) := by decide +kernel
theorem d_M_becomeOld_14 : decode b_M_becomeOld 14 = .ok (.aload_n 0, 1) := by decide +kernel
theorem d_M_becomeOld_15 : decode b_M_becomeOld 15 = .ok (.getfield 28, 3) := by decide +kernel
theorem d_M_becomeOld_18 : decode b_M_becomeOld 18 = .ok (.iload_n 1, 1) := by decide +kernel
theorem d_M_becomeOld_19 : decode b_M_becomeOld 19 = .ok (.iconst 0, 1) := by decide +kernel
theorem d_M_becomeOld_20 : decode b_M_becomeOld 20 = .ok (.bastore, 1) := by decide +kernel
theorem d_M_becomeOld_21 : decode b_M_becomeOld 21 = .ok (.aload_n 0, 1) := by decide +kernel
theorem d_M_becomeOld_22 : decode b_M_becomeOld 22 = .ok (.getfield 32, 3) := by decide +kernel
theorem d_M_becomeOld_25 : decode b_M_becomeOld 25 = .ok (.iload_n 1, 1) := by decide +kernel
theorem d_M_becomeOld_26 : decode b_M_becomeOld 26 = .ok (.iconst 0, 1) := by decide +kernel
theorem d_M_becomeOld_27 : decode b_M_becomeOld 27 = .ok (.bastore, 1) := by decide +kernel
theorem d_M_becomeOld_28 : decode b_M_becomeOld 28 = .ok (.aload_n 0, 1) := by decide +kernel
theorem d_M_becomeOld_29 : decode b_M_becomeOld 29 = .ok (.dup, 1) := by decide +kernel
theorem d_M_becomeOld_30 : decode b_M_becomeOld 30 = .ok (.getfield 66, 3) := by decide +kernel
theorem d_M_becomeOld_33 : decode b_M_becomeOld 33 = .ok (.iconst 1, 1) := by decide +kernel
theorem d_M_becomeOld_34 : decode b_M_becomeOld 34 = .ok (.iadd, 1) := by decide +kernel
theorem d_M_becomeOld_35 : decode b_M_becomeOld 35 = .ok (.putfield 66, 3) := by decide +kernel
theorem d_M_becomeOld_38 : decode b_M_becomeOld 38 = .ok (.return_, 1) := by decide +kernel
theorem d_M_remove_0 : decode b_M_remove 0 = .ok (.aload_n 0, 1) := by decide +kernel
theorem d_M_remove_1 : decode b_M_remove 1 = .ok (.getfield 7, 3) := by decide +kernel
theorem d_M_remove_4 : decode b_M_remove 4 = .ok (.iload_n 1, 1) := by decide +kernel
theorem d_M_remove_5 : decode b_M_remove 5 = .ok (.iconst 0, 1) := by decide +kernel
theorem d_M_remove_6 : decode b_M_remove 6 = .ok (.iastore, 1) := by decide +kernel
theorem d_M_remove_7 : decode b_M_remove 7 = .ok (.aload_n 0, 1) := by decide +kernel
theorem d_M_remove_8 : decode b_M_remove 8 = .ok (.getfield 28, 3) := by decide +kernel
theorem d_M_remove_11 : decode b_M_remove 11 = .ok (.iload_n 1, 1) := by decide +kernel
theorem d_M_remove_12 : decode b_M_remove 12 = .ok (.iconst 0, 1) := by decide +kernel
theorem d_M_remove_13 : decode b_M_remove 13 = .ok (.bastore, 1) := by decide +kernel
theorem d_M_remove_14 : decode b_M_remove 14 = .ok (.aload_n 0, 1) := by decide +kernel
theorem d_M_remove_15 : decode b_M_remove 15 = .ok (.getfield 32, 3) := by decide +kernel
theorem d_M_remove_18 : decode b_M_remove 18 = .ok (.iload_n 1, 1) := by decide +kernel
theorem d_M_remove_19 : decode b_M_remove 19 = .ok (.iconst 0, 1) := by decide +kernel
theorem d_M_remove_20 : decode b_M_remove 20 = .ok (.bastore, 1) := by decide +kernel
theorem d_M_remove_21 : decode b_M_remove 21 = .ok (.iconst 0, 1) := by decide +kernel
theorem d_M_remove_22 : decode b_M_remove 22 = .ok (.istore_n 2, 1) := by decide +kernel
theorem d_M_remove_23 : decode b_M_remove 23 = .ok (.iload_n 2, 1) := by decide +kernel
theorem d_M_remove_24 : decode b_M_remove 24 = .ok (.sipush 270, 3) := by decide +kernel
theorem d_M_remove_27 : decode b_M_remove 27 = .ok (.if_icmp .ge 35, 3) := by decide +kernel
theorem d_M_remove_30 : decode b_M_remove 30 = .ok (.aload_n 0, 1) := by decide +kernel
theorem d_M_remove_31 : decode b_M_remove 31 = .ok (.getfield 19, 3) := by decide +kernel
theorem d_M_remove_34 : decode b_M_remove 34 = .ok (.iload_n 2, 1) := by decide +kernel
theorem d_M_remove_35 : decode b_M_remove 35 = .ok (.aload_n 0, 1) := by decide +kernel
theorem d_M_remove_36 : decode b_M_remove 36 = .ok (.getfield 19, 3) := by decide +kernel
theorem d_M_remove_39 : decode b_M_remove 39 = .ok (.iload_n 2, 1) := by decide +kernel
theorem d_M_remove_40 : decode b_M_remove 40 = .ok (.iaload, 1) := by decide +kernel
theorem d_M_remove_41 : decode b_M_remove 41 = .ok (.iload_n 1, 1) := by decide +kernel
theorem d_M_remove_42 : decode b_M_remove 42 = .ok (.if_icmp .ne 7, 3) := by decide +kernel
theorem d_M_remove_45 : decode b_M_remove 45 = .ok (.iconst (-1), 1) := by decide +kernel
theorem d_M_remove_46 : decode b_M_remove 46 = .ok (.goto 9, 3) := by decide +kernel
theorem d_M_remove_49 : decode b_M_remove 49 = .ok (.aload_n 0, 1) := by decide +kernel
theorem d_M_remove_50 : decode b_M_remove 50 = .ok (.getfield 19, 3) := by decide +kernel
theorem d_M_remove_53 : decode b_M_remove 53 = .ok (.iload_n 2, 1) := by decide +kernel
theorem d_M_remove_54 : decode b_M_remove 54 = .ok (.iaload, 1) := by decide +kernel
theorem d_M_remove_55 : decode b_M_remove 55 = .ok (.iastore, 1) := by decide +kernel
theorem d_M_remove_56 : decode b_M_remove 56 = .ok (.iinc 2 1, 3) := by decide +kernel
theorem d_M_remove_59 : decode b_M_remove 59 = .ok (.goto (-36), 3) := by decide +kernel
theorem d_M_remove_62 : decode b_M_remove 62 = .ok (.return_, 1) := by decide +kernel
theorem d_M_reach_0 : decode b_M_reach 0 = .ok (.iload_n 1, 1) := by decide +kernel
theorem d_M_reach_1 : decode b_M_reach 1 = .ok (.ifCond .lt 22, 3) := by decide +kernel
theorem d_M_reach_4 : decode b_M_reach 4 = .ok (.aload_n 0, 1) := by decide +kernel
theorem d_M_reach_5 : decode b_M_reach 5 = .ok (.getfield 7, 3) := by decide +kernel
theorem d_M_reach_8 : decode b_M_reach 8 = .ok (.iload_n 1, 1) := by decide +kernel
theorem d_M_reach_9 : decode b_M_reach 9 = .ok (.iaload, 1) := by decide +kernel
theorem d_M_reach_10 : decode b_M_reach 10 = .ok (.iconst 1, 1) := by decide +kernel
theorem d_M_reach_11 : decode b_M_reach 11 = .ok (.if_icmp .ne 12, 3) := by decide +kernel
theorem d_M_reach_14 : decode b_M_reach 14 = .ok (.aload_n 0, 1) := by decide +kernel
theorem d_M_reach_15 : decode b_M_reach 15 = .ok (.getfield 50, 3) := by decide +kernel
theorem d_M_reach_18 : decode b_M_reach 18 = .ok (.iload_n 1, 1) := by decide +kernel
theorem d_M_reach_19 : decode b_M_reach 19 = .ok (.baload, 1) := by decide +kernel
theorem d_M_reach_20 : decode b_M_reach 20 = .ok (.ifCond .eq 4, 3) := by decide +kernel
theorem d_M_reach_23 : decode b_M_reach 23 = .ok (.return_, 1) := by decide +kernel
theorem d_M_reach_24 : decode b_M_reach 24 = .ok (.aload_n 0, 1) := by decide +kernel
theorem d_M_reach_25 : decode b_M_reach 25 = .ok (.getfield 50, 3) := by decide +kernel
theorem d_M_reach_28 : decode b_M_reach 28 = .ok (.iload_n 1, 1) := by decide +kernel
theorem d_M_reach_29 : decode b_M_reach 29 = .ok (.iconst 1, 1) := by decide +kernel
theorem d_M_reach_30 : decode b_M_reach 30 = .ok (.bastore, 1) := by decide +kernel
theorem d_M_reach_31 : decode b_M_reach 31 = .ok (.aload_n 0, 1) := by decide +kernel
theorem d_M_reach_32 : decode b_M_reach 32 = .ok (.getfield 47, 3) := by decide +kernel
theorem d_M_reach_35 : decode b_M_reach 35 = .ok (.aload_n 0, 1) := by decide +kernel
theorem d_M_reach_36 : decode b_M_reach 36 = .ok (.getfield 70, 3) := by decide +kernel
theorem d_M_reach_39 : decode b_M_reach 39 = .ok (.iload_n 1, 1) := by decide +kernel
theorem d_M_reach_40 : decode b_M_reach 40 = .ok (.iastore, 1) := by decide +kernel
theorem d_M_reach_41 : decode b_M_reach 41 = .ok (.aload_n 0, 1) := by decide +kernel
theorem d_M_reach_42 : decode b_M_reach 42 = .ok (.dup, 1) := by decide +kernel
theorem d_M_reach_43 : decode b_M_reach 43 = .ok (.getfield 70, 3) := by decide +kernel
theorem d_M_reach_46 : decode b_M_reach 46 = .ok (.iconst 1, 1) := by decide +kernel
theorem d_M_reach_47 : decode b_M_reach 47 = .ok (.iadd, 1) := by decide +kernel
theorem d_M_reach_48 : decode b_M_reach 48 = .ok (.putfield 70, 3) := by decide +kernel
theorem d_M_reach_51 : decode b_M_reach 51 = .ok (.aload_n 0, 1) := by decide +kernel
theorem d_M_reach_52 : decode b_M_reach 52 = .ok (.getfield 22, 3) := by decide +kernel
theorem d_M_reach_55 : decode b_M_reach 55 = .ok (.iload_n 1, 1) := by decide +kernel
theorem d_M_reach_56 : decode b_M_reach 56 = .ok (.aload_n 0, 1) := by decide +kernel
theorem d_M_reach_57 : decode b_M_reach 57 = .ok (.getfield 22, 3) := by decide +kernel
theorem d_M_reach_60 : decode b_M_reach 60 = .ok (.iload_n 1, 1) := by decide +kernel
theorem d_M_reach_61 : decode b_M_reach 61 = .ok (.iaload, 1) := by decide +kernel
theorem d_M_reach_62 : decode b_M_reach 62 = .ok (.bipush 9, 2) := by decide +kernel
theorem d_M_reach_64 : decode b_M_reach 64 = .ok (.if_icmp .ge 14, 3) := by decide +kernel
theorem d_M_reach_67 : decode b_M_reach 67 = .ok (.aload_n 0, 1) := by decide +kernel
theorem d_M_reach_68 : decode b_M_reach 68 = .ok (.getfield 22, 3) := by decide +kernel
theorem d_M_reach_71 : decode b_M_reach 71 = .ok (.iload_n 1, 1) := by decide +kernel
theorem d_M_reach_72 : decode b_M_reach 72 = .ok (.iaload, 1) := by decide +kernel
theorem d_M_reach_73 : decode b_M_reach 73 = .ok (.iconst 1, 1) := by decide +kernel
theorem d_M_reach_74 : decode b_M_reach 74 = .ok (.iadd, 1) := by decide +kernel
theorem d_M_reach_75 : decode b_M_reach 75 = .ok (.goto 5, 3) := by decide +kernel
theorem d_M_reach_78 : decode b_M_reach 78 = .ok (.bipush 9, 2) := by decide +kernel
theorem d_M_reach_80 : decode b_M_reach 80 = .ok (.iastore, 1) := by decide +kernel
theorem d_M_reach_81 : decode b_M_reach 81 = .ok (.aload_n 0, 1) := by decide +kernel
theorem d_M_reach_82 : decode b_M_reach 82 = .ok (.getfield 22, 3) := by decide +kernel
theorem d_M_reach_85 : decode b_M_reach 85 = .ok (.iload_n 1, 1) := by decide +kernel
theorem d_M_reach_86 : decode b_M_reach 86 = .ok (.iaload, 1) := by decide +kernel
theorem d_M_reach_87 : decode b_M_reach 87 = .ok (.iconst 2, 1) := by decide +kernel
theorem d_M_reach_88 : decode b_M_reach 88 = .ok (.if_icmp .lt 18, 3) := by decide +kernel
theorem d_M_reach_91 : decode b_M_reach 91 = .ok (.aload_n 0, 1) := by decide +kernel
theorem d_M_reach_92 : decode b_M_reach 92 = .ok (.iconst 1, 1) := by decide +kernel
theorem d_M_reach_93 : decode b_M_reach 93 = .ok (.aload_n 0, 1) := by decide +kernel
theorem d_M_reach_94 : decode b_M_reach 94 = .ok (.getfield 16, 3) := by decide +kernel
theorem d_M_reach_97 : decode b_M_reach 97 = .ok (.iload_n 1, 1) := by decide +kernel
theorem d_M_reach_98 : decode b_M_reach 98 = .ok (.iaload, 1) := by decide +kernel
theorem d_M_reach_99 : decode b_M_reach 99 = .ok (.iadd, 1) := by decide +kernel
theorem d_M_reach_100 : decode b_M_reach 100 = .ok (.invokevirtual 73, 3) := by decide +kernel
theorem d_M_reach_103 : decode b_M_reach 103 = .ok (.goto 4, 3) := by decide +kernel
theorem d_M_reach_106 : decode b_M_reach 106 = .ok (.iconst (-1), 1) := by decide +kernel
theorem d_M_reach_107 : decode b_M_reach 107 = .ok (.istore_n 2, 1) := by decide +kernel
theorem d_M_reach_108 : decode b_M_reach 108 = .ok (.iload_n 2, 1) := by decide +kernel
theorem d_M_reach_109 : decode b_M_reach 109 = .ok (.ifCond .ge 4, 3) := by decide +kernel
theorem d_M_reach_112 : decode b_M_reach 112 = .ok (.return_, 1) := by decide +kernel
theorem d_M_reach_113 : decode b_M_reach 113 = .ok (.aload_n 0, 1) := by decide +kernel
theorem d_M_reach_114 : decode b_M_reach 114 = .ok (.iload_n 1, 1) := by decide +kernel
theorem d_M_reach_115 : decode b_M_reach 115 = .ok (.iload_n 2, 1) := by decide +kernel
theorem d_M_reach_116 : decode b_M_reach 116 = .ok (.invokevirtual 77, 3) := by decide +kernel
theorem d_M_reach_119 : decode b_M_reach 119 = .ok (.aload_n 0, 1) := by decide +kernel
theorem d_M_reach_120 : decode b_M_reach 120 = .ok (.getfield 28, 3) := by decide +kernel
theorem d_M_reach_123 : decode b_M_reach 123 = .ok (.iload_n 1, 1) := by decide +kernel
theorem d_M_reach_124 : decode b_M_reach 124 = .ok (.aload_n 0, 1) := by decide +kernel
theorem d_M_reach_125 : decode b_M_reach 125 = .ok (.getfield 81, 3) := by decide +kernel
theorem d_M_reach_128 : decode b_M_reach 128 = .ok (.ifCond .eq 7, 3) := by decide +kernel
theorem d_M_reach_131 : decode b_M_reach 131 = .ok (.iconst 1, 1) := by decide +kernel
theorem d_M_reach_132 : decode b_M_reach 132 = .ok (.goto 4, 3) := by decide +kernel
theorem d_M_reach_135 : decode b_M_reach 135 = .ok (.iconst 0, 1) := by decide +kernel
theorem d_M_reach_136 : decode b_M_reach 136 = .ok (.bastore, 1) := by decide +kernel
theorem d_M_reach_137 : decode b_M_reach 137 = .ok (.iconst 0, 1) := by decide +kernel
theorem d_M_reach_138 : decode b_M_reach 138 = .ok (.istore_n 3, 1) := by decide +kernel
theorem d_M_reach_139 : decode b_M_reach 139 = .ok (.iload_n 3, 1) := by decide +kernel
theorem d_M_reach_140 : decode b_M_reach 140 = .ok (.bipush 8, 2) := by decide +kernel
theorem d_M_reach_142 : decode b_M_reach 142 = .ok (.if_icmp .ge 38, 3) := by decide +kernel
theorem d_M_reach_145 : decode b_M_reach 145 = .ok (.aload_n 0, 1) := by decide +kernel
theorem d_M_reach_146 : decode b_M_reach 146 = .ok (.getfield 38, 3) := by decide +kernel
theorem d_M_reach_149 : decode b_M_reach 149 = .ok (.iload_n 3, 1) := by decide +kernel
theorem d_M_reach_150 : decode b_M_reach 150 = .ok (.aload_n 0, 1) := by decide +kernel
theorem d_M_reach_151 : decode b_M_reach 151 = .ok (.getfield 38, 3) := by decide +kernel
theorem d_M_reach_154 : decode b_M_reach 154 = .ok (.iload_n 3, 1) := by decide +kernel
theorem d_M_reach_155 : decode b_M_reach 155 = .ok (.baload, 1) := by decide +kernel
theorem d_M_reach_156 : decode b_M_reach 156 = .ok (.ifCond .ne 12, 3) := by decide +kernel
theorem d_M_reach_159 : decode b_M_reach 159 = .ok (.aload_n 0, 1) := by decide +kernel
theorem d_M_reach_160 : decode b_M_reach 160 = .ok (.iload_n 1, 1) := by decide +kernel
theorem d_M_reach_161 : decode b_M_reach 161 = .ok (.iload_n 3, 1) := by decide +kernel
theorem d_M_reach_162 : decode b_M_reach 162 = .ok (.invokevirtual 84, 3) := by decide +kernel
theorem d_M_reach_165 : decode b_M_reach 165 = .ok (.ifCond .eq 7, 3) := by decide +kernel
theorem d_M_reach_168 : decode b_M_reach 168 = .ok (.iconst 1, 1) := by decide +kernel
theorem d_M_reach_169 : decode b_M_reach 169 = .ok (.goto 4, 3) := by decide +kernel
theorem d_M_reach_172 : decode b_M_reach 172 = .ok (.iconst 0, 1) := by decide +kernel
theorem d_M_reach_173 : decode b_M_reach 173 = .ok (.bastore, 1) := by decide +kernel
theorem d_M_reach_174 : decode b_M_reach 174 = .ok (.iinc 3 1, 3) := by decide +kernel
theorem d_M_reach_177 : decode b_M_reach 177 = .ok (.goto (-38), 3) := by decide +kernel
theorem d_M_reach_180 : decode b_M_reach 180 = .ok (.return_, 1) := by decide +kernel
theorem d_M_reachFrom_0 : decode b_M_reachFrom 0 = .ok (.iconst 0, 1) := by decide +kernel
theorem d_M_reachFrom_1 : decode b_M_reachFrom 1 = .ok (.istore_n 2, 1) := by decide +kernel
theorem d_M_reachFrom_2 : decode b_M_reachFrom 2 = .ok (.iload_n 2, 1) := by decide +kernel
theorem d_M_reachFrom_3 : decode b_M_reachFrom 3 = .ok (.bipush 90, 2) := by decide +kernel
theorem d_M_reachFrom_5 : decode b_M_reachFrom 5 = .ok (.if_icmp .ge 80, 3) := by decide +kernel
theorem d_M_reachFrom_8 : decode b_M_reachFrom 8 = .ok (.aload_n 0, 1) := by decide +kernel
theorem d_M_reachFrom_9 : decode b_M_reachFrom 9 = .ok (.getfield 53, 3) := by decide +kernel
theorem d_M_reachFrom_12 : decode b_M_reachFrom 12 = .ok (.iload_n 2, 1) := by decide +kernel
theorem d_M_reachFrom_13 : decode b_M_reachFrom 13 = .ok (.baload, 1) := by decide +kernel
theorem d_M_reachFrom_14 : decode b_M_reachFrom 14 = .ok (.ifCond .eq 65, 3) := by decide +kernel
theorem d_M_reachFrom_17 : decode b_M_reachFrom 17 = .ok (.aload_n 0, 1) := by decide +kernel
theorem d_M_reachFrom_18 : decode b_M_reachFrom 18 = .ok (.getfield 56, 3) := by decide +kernel
theorem d_M_reachFrom_21 : decode b_M_reachFrom 21 = .ok (.iload_n 1, 1) := by decide +kernel
theorem d_M_reachFrom_22 : decode b_M_reachFrom 22 = .ok (.bipush 8, 2) := by decide +kernel
theorem d_M_reachFrom_24 : decode b_M_reachFrom 24 = .ok (.idiv, 1) := by decide +kernel
theorem d_M_reachFrom_25 : decode b_M_reachFrom 25 = .ok (.baload, 1) := by decide +kernel
theorem d_M_reachFrom_26 : decode b_M_reachFrom 26 = .ok (.ifCond .eq 53, 3) := by decide +kernel
theorem d_M_reachFrom_29 : decode b_M_reachFrom 29 = .ok (.iload_n 1, 1) := by decide +kernel
theorem d_M_reachFrom_30 : decode b_M_reachFrom 30 = .ok (.aload_n 0, 1) := by decide +kernel
theorem d_M_reachFrom_31 : decode b_M_reachFrom 31 = .ok (.getfield 25, 3) := by decide +kernel
theorem d_M_reachFrom_34 : decode b_M_reachFrom 34 = .ok (.iload_n 2, 1) := by decide +kernel
theorem d_M_reachFrom_35 : decode b_M_reachFrom 35 = .ok (.iaload, 1) := by decide +kernel
theorem d_M_reachFrom_36 : decode b_M_reachFrom 36 = .ok (.if_icmp .le 43, 3) := by decide +kernel
theorem d_M_reachFrom_39 : decode b_M_reachFrom 39 = .ok (.iload_n 1, 1) := by decide +kernel
theorem d_M_reachFrom_40 : decode b_M_reachFrom 40 = .ok (.aload_n 0, 1) := by decide +kernel
theorem d_M_reachFrom_41 : decode b_M_reachFrom 41 = .ok (.getfield 25, 3) := by decide +kernel
theorem d_M_reachFrom_44 : decode b_M_reachFrom 44 = .ok (.iload_n 2, 1) := by decide +kernel
theorem d_M_reachFrom_45 : decode b_M_reachFrom 45 = .ok (.iaload, 1) := by decide +kernel
theorem d_M_reachFrom_46 : decode b_M_reachFrom 46 = .ok (.aload_n 0, 1) := by decide +kernel
theorem d_M_reachFrom_47 : decode b_M_reachFrom 47 = .ok (.getfield 16, 3) := by decide +kernel
theorem d_M_reachFrom_50 : decode b_M_reachFrom 50 = .ok (.iload_n 2, 1) := by decide +kernel
theorem d_M_reachFrom_51 : decode b_M_reachFrom 51 = .ok (.iaload, 1) := by decide +kernel
theorem d_M_reachFrom_52 : decode b_M_reachFrom 52 = .ok (.iadd, 1) := by decide +kernel
theorem d_M_reachFrom_53 : decode b_M_reachFrom 53 = .ok (.if_icmp .gt 26, 3) := by decide +kernel
theorem d_M_reachFrom_56 : decode b_M_reachFrom 56 = .ok (.aload_n 0, 1) := by decide +kernel
theorem d_M_reachFrom_57 : decode b_M_reachFrom 57 = .ok (.aload_n 0, 1) := by decide +kernel
theorem d_M_reachFrom_58 : decode b_M_reachFrom 58 = .ok (.getfield 19, 3) := by decide +kernel
theorem d_M_reachFrom_61 : decode b_M_reachFrom 61 = .ok (.iconst 3, 1) := by decide +kernel
theorem d_M_reachFrom_62 : decode b_M_reachFrom 62 = .ok (.iload_n 2, 1) := by decide +kernel
theorem d_M_reachFrom_63 : decode b_M_reachFrom 63 = .ok (.imul, 1) := by decide +kernel
theorem d_M_reachFrom_64 : decode b_M_reachFrom 64 = .ok (.iload_n 1, 1) := by decide +kernel
theorem d_M_reachFrom_65 : decode b_M_reachFrom 65 = .ok (.iadd, 1) := by decide +kernel
theorem d_M_reachFrom_66 : decode b_M_reachFrom 66 = .ok (.aload_n 0, 1) := by decide +kernel
theorem d_M_reachFrom_67 : decode b_M_reachFrom 67 = .ok (.getfield 25, 3) := by decide +kernel
theorem d_M_reachFrom_70 : decode b_M_reachFrom 70 = .ok (.iload_n 2, 1) := by decide +kernel
theorem d_M_reachFrom_71 : decode b_M_reachFrom 71 = .ok (.iaload, 1) := by decide +kernel
theorem d_M_reachFrom_72 : decode b_M_reachFrom 72 = .ok (.isub, 1) := by decide +kernel
theorem d_M_reachFrom_73 : decode b_M_reachFrom 73 = .ok (.iconst 1, 1) := by decide +kernel
theorem d_M_reachFrom_74 : decode b_M_reachFrom 74 = .ok (.isub, 1) := by decide +kernel
theorem d_M_reachFrom_75 : decode b_M_reachFrom 75 = .ok (.iaload, 1) := by decide +kernel
theorem d_M_reachFrom_76 : decode b_M_reachFrom 76 = .ok (.invokevirtual 88, 3) := by decide +kernel
theorem d_M_reachFrom_79 : decode b_M_reachFrom 79 = .ok (.iinc 2 1, 3) := by decide +kernel
theorem d_M_reachFrom_82 : decode b_M_reachFrom 82 = .ok (.goto (-80), 3) := by decide +kernel
theorem d_M_reachFrom_85 : decode b_M_reachFrom 85 = .ok (.return_, 1) := by decide +kernel
theorem d_M_prepare_0 : decode b_M_prepare 0 = .ok (.aload_n 0, 1) := by decide +kernel
theorem d_M_prepare_1 : decode b_M_prepare 1 = .ok (.iconst 0, 1) := by decide +kernel
theorem d_M_prepare_2 : decode b_M_prepare 2 = .ok (.putfield 66, 3) := by decide +kernel
theorem d_M_prepare_5 : decode b_M_prepare 5 = .ok (.aload_n 0, 1) := by decide +kernel
theorem d_M_prepare_6 : decode b_M_prepare 6 = .ok (.iconst 0, 1) := by decide +kernel
theorem d_M_prepare_7 : decode b_M_prepare 7 = .ok (.putfield 70, 3) := by decide +kernel
theorem d_M_prepare_10 : decode b_M_prepare 10 = .ok (.iconst 0, 1) := by decide +kernel
theorem d_M_prepare_11 : decode b_M_prepare 11 = .ok (.istore_n 1, 1) := by decide +kernel
theorem d_M_prepare_12 : decode b_M_prepare 12 = .ok (.iload_n 1, 1) := by decide +kernel
theorem d_M_prepare_13 : decode b_M_prepare 13 = .ok (.bipush 90, 2) := by decide +kernel
theorem d_M_prepare_15 : decode b_M_prepare 15 = .ok (.if_icmp .ge 49, 3) := by decide +kernel
theorem d_M_prepare_18 : decode b_M_prepare 18 = .ok (.aload_n 0, 1) := by decide +kernel
theorem d_M_prepare_19 : decode b_M_prepare 19 = .ok (.getfield 50, 3) := by decide +kernel
theorem d_M_prepare_22 : decode b_M_prepare 22 = .ok (.iload_n 1, 1) := by decide +kernel
theorem d_M_prepare_23 : decode b_M_prepare 23 = .ok (.iconst 0, 1) := by decide +kernel
theorem d_M_prepare_24 : decode b_M_prepare 24 = .ok (.bastore, 1) := by decide +kernel
theorem d_M_prepare_25 : decode b_M_prepare 25 = .ok (.aload_n 0, 1) := by decide +kernel
theorem d_M_prepare_26 : decode b_M_prepare 26 = .ok (.getfield 53, 3) := by decide +kernel
theorem d_M_prepare_29 : decode b_M_prepare 29 = .ok (.iload_n 1, 1) := by decide +kernel
theorem d_M_prepare_30 : decode b_M_prepare 30 = .ok (.aload_n 0, 1) := by decide +kernel
theorem d_M_prepare_31 : decode b_M_prepare 31 = .ok (.getfield 7, 3) := by decide +kernel
theorem d_M_prepare_34 : decode b_M_prepare 34 = .ok (.iload_n 1, 1) := by decide +kernel
theorem d_M_prepare_35 : decode b_M_prepare 35 = .ok (.iaload, 1) := by decide +kernel
theorem d_M_prepare_36 : decode b_M_prepare 36 = .ok (.iconst 2, 1) := by decide +kernel
theorem d_M_prepare_37 : decode b_M_prepare 37 = .ok (.if_icmp .ne 7, 3) := by decide +kernel
theorem d_M_prepare_40 : decode b_M_prepare 40 = .ok (.iconst 1, 1) := by decide +kernel
theorem d_M_prepare_41 : decode b_M_prepare 41 = .ok (.goto 4, 3) := by decide +kernel
theorem d_M_prepare_44 : decode b_M_prepare 44 = .ok (.iconst 0, 1) := by decide +kernel
theorem d_M_prepare_45 : decode b_M_prepare 45 = .ok (.bastore, 1) := by decide +kernel
theorem d_M_prepare_46 : decode b_M_prepare 46 = .ok (.aload_n 0, 1) := by decide +kernel
theorem d_M_prepare_47 : decode b_M_prepare 47 = .ok (.getfield 59, 3) := by decide +kernel
theorem d_M_prepare_50 : decode b_M_prepare 50 = .ok (.iload_n 1, 1) := by decide +kernel
theorem d_M_prepare_51 : decode b_M_prepare 51 = .ok (.aload_n 0, 1) := by decide +kernel
theorem d_M_prepare_52 : decode b_M_prepare 52 = .ok (.getfield 25, 3) := by decide +kernel
theorem d_M_prepare_55 : decode b_M_prepare 55 = .ok (.iload_n 1, 1) := by decide +kernel
theorem d_M_prepare_56 : decode b_M_prepare 56 = .ok (.iaload, 1) := by decide +kernel
theorem d_M_prepare_57 : decode b_M_prepare 57 = .ok (.iastore, 1) := by decide +kernel
theorem d_M_prepare_58 : decode b_M_prepare 58 = .ok (.iinc 1 1, 3) := by decide +kernel
theorem d_M_prepare_61 : decode b_M_prepare 61 = .ok (.goto (-49), 3) := by decide +kernel
theorem d_M_prepare_64 : decode b_M_prepare 64 = .ok (.iconst 0, 1) := by decide +kernel
theorem d_M_prepare_65 : decode b_M_prepare 65 = .ok (.istore_n 1, 1) := by decide +kernel
theorem d_M_prepare_66 : decode b_M_prepare 66 = .ok (.iload_n 1, 1) := by decide +kernel
theorem d_M_prepare_67 : decode b_M_prepare 67 = .ok (.bipush 8, 2) := by decide +kernel
theorem d_M_prepare_69 : decode b_M_prepare 69 = .ok (.if_icmp .ge 21, 3) := by decide +kernel
theorem d_M_prepare_72 : decode b_M_prepare 72 = .ok (.aload_n 0, 1) := by decide +kernel
theorem d_M_prepare_73 : decode b_M_prepare 73 = .ok (.getfield 56, 3) := by decide +kernel
theorem d_M_prepare_76 : decode b_M_prepare 76 = .ok (.iload_n 1, 1) := by decide +kernel
theorem d_M_prepare_77 : decode b_M_prepare 77 = .ok (.aload_n 0, 1) := by decide +kernel
theorem d_M_prepare_78 : decode b_M_prepare 78 = .ok (.getfield 38, 3) := by decide +kernel
theorem d_M_prepare_81 : decode b_M_prepare 81 = .ok (.iload_n 1, 1) := by decide +kernel
theorem d_M_prepare_82 : decode b_M_prepare 82 = .ok (.baload, 1) := by decide +kernel
theorem d_M_prepare_83 : decode b_M_prepare 83 = .ok (.bastore, 1) := by decide +kernel
theorem d_M_prepare_84 : decode b_M_prepare 84 = .ok (.iinc 1 1, 3) := by decide +kernel
theorem d_M_prepare_87 : decode b_M_prepare 87 = .ok (.goto (-21), 3) := by decide +kernel
theorem d_M_prepare_90 : decode b_M_prepare 90 = .ok (.return_, 1) := by decide +kernel
theorem d_M_collectYoung_0 : decode b_M_collectYoung 0 = .ok (.aload_n 0, 1) := by decide +kernel
theorem d_M_collectYoung_1 : decode b_M_collectYoung 1 = .ok (.invokevirtual 92, 3) := by decide +kernel
theorem d_M_collectYoung_4 : decode b_M_collectYoung 4 = .ok (.iconst 0, 1) := by decide +kernel
theorem d_M_collectYoung_5 : decode b_M_collectYoung 5 = .ok (.istore_n 1, 1) := by decide +kernel
theorem d_M_collectYoung_6 : decode b_M_collectYoung 6 = .ok (.iload_n 1, 1) := by decide +kernel
theorem d_M_collectYoung_7 : decode b_M_collectYoung 7 = .ok (.bipush 6, 2) := by decide +kernel
theorem d_M_collectYoung_9 : decode b_M_collectYoung 9 = .ok (.if_icmp .ge 19, 3) := by decide +kernel
theorem d_M_collectYoung_12 : decode b_M_collectYoung 12 = .ok (.aload_n 0, 1) := by decide +kernel
theorem d_M_collectYoung_13 : decode b_M_collectYoung 13 = .ok (.aload_n 0, 1) := by decide +kernel
theorem d_M_collectYoung_14 : decode b_M_collectYoung 14 = .ok (.getfield 35, 3) := by decide +kernel
theorem d_M_collectYoung_17 : decode b_M_collectYoung 17 = .ok (.iload_n 1, 1) := by decide +kernel
theorem d_M_collectYoung_18 : decode b_M_collectYoung 18 = .ok (.iaload, 1) := by decide +kernel
theorem d_M_collectYoung_19 : decode b_M_collectYoung 19 = .ok (.invokevirtual 88, 3) := by decide +kernel
theorem d_M_collectYoung_22 : decode b_M_collectYoung 22 = .ok (.iinc 1 1, 3) := by decide +kernel
theorem d_M_collectYoung_25 : decode b_M_collectYoung 25 = .ok (.goto (-19), 3) := by decide +kernel
theorem d_M_collectYoung_28 : decode b_M_collectYoung 28 = .ok (.iconst 0, 1) := by decide +kernel
theorem d_M_collectYoung_29 : decode b_M_collectYoung 29 = .ok (.istore_n 1, 1) := by decide +kernel
theorem d_M_collectYoung_30 : decode b_M_collectYoung 30 = .ok (.iload_n 1, 1) := by decide +kernel
theorem d_M_collectYoung_31 : decode b_M_collectYoung 31 = .ok (.bipush 64, 2) := by decide +kernel
theorem d_M_collectYoung_33 : decode b_M_collectYoung 33 = .ok (.if_icmp .ge 14, 3) := by decide +kernel
theorem d_M_collectYoung_36 : decode b_M_collectYoung 36 = .ok (.aload_n 0, 1) := by decide +kernel
theorem d_M_collectYoung_37 : decode b_M_collectYoung 37 = .ok (.iload_n 1, 1) := by decide +kernel
theorem d_M_collectYoung_38 : decode b_M_collectYoung 38 = .ok (.invokevirtual 95, 3) := by decide +kernel
theorem d_M_collectYoung_41 : decode b_M_collectYoung 41 = .ok (.iinc 1 1, 3) := by decide +kernel
theorem d_M_collectYoung_44 : decode b_M_collectYoung 44 = .ok (.goto (-14), 3) := by decide +kernel
theorem d_M_collectYoung_47 : decode b_M_collectYoung 47 = .ok (.iconst 0, 1) := by decide +kernel
theorem d_M_collectYoung_48 : decode b_M_collectYoung 48 = .ok (.istore_n 1, 1) := by decide +kernel
theorem d_M_collectYoung_49 : decode b_M_collectYoung 49 = .ok (.iload_n 1, 1) := by decide +kernel
theorem d_M_collectYoung_50 : decode b_M_collectYoung 50 = .ok (.aload_n 0, 1) := by decide +kernel
theorem d_M_collectYoung_51 : decode b_M_collectYoung 51 = .ok (.getfield 70, 3) := by decide +kernel
theorem d_M_collectYoung_54 : decode b_M_collectYoung 54 = .ok (.if_icmp .ge 51, 3) := by decide +kernel
theorem d_M_collectYoung_57 : decode b_M_collectYoung 57 = .ok (.iconst 0, 1) := by decide +kernel
theorem d_M_collectYoung_58 : decode b_M_collectYoung 58 = .ok (.istore_n 2, 1) := by decide +kernel
theorem d_M_collectYoung_59 : decode b_M_collectYoung 59 = .ok (.iload_n 2, 1) := by decide +kernel
theorem d_M_collectYoung_60 : decode b_M_collectYoung 60 = .ok (.aload_n 0, 1) := by decide +kernel
theorem d_M_collectYoung_61 : decode b_M_collectYoung 61 = .ok (.getfield 16, 3) := by decide +kernel
theorem d_M_collectYoung_64 : decode b_M_collectYoung 64 = .ok (.aload_n 0, 1) := by decide +kernel
theorem d_M_collectYoung_65 : decode b_M_collectYoung 65 = .ok (.getfield 47, 3) := by decide +kernel
theorem d_M_collectYoung_68 : decode b_M_collectYoung 68 = .ok (.iload_n 1, 1) := by decide +kernel
theorem d_M_collectYoung_69 : decode b_M_collectYoung 69 = .ok (.iaload, 1) := by decide +kernel
theorem d_M_collectYoung_70 : decode b_M_collectYoung 70 = .ok (.iaload, 1) := by decide +kernel
theorem d_M_collectYoung_71 : decode b_M_collectYoung 71 = .ok (.if_icmp .ge 28, 3) := by decide +kernel
theorem d_M_collectYoung_74 : decode b_M_collectYoung 74 = .ok (.aload_n 0, 1) := by decide +kernel
theorem d_M_collectYoung_75 : decode b_M_collectYoung 75 = .ok (.aload_n 0, 1) := by decide +kernel
theorem d_M_collectYoung_76 : decode b_M_collectYoung 76 = .ok (.getfield 19, 3) := by decide +kernel
theorem d_M_collectYoung_79 : decode b_M_collectYoung 79 = .ok (.iconst 3, 1) := by decide +kernel
theorem d_M_collectYoung_80 : decode b_M_collectYoung 80 = .ok (.aload_n 0, 1) := by decide +kernel
theorem d_M_collectYoung_81 : decode b_M_collectYoung 81 = .ok (.getfield 47, 3) := by decide +kernel
theorem d_M_collectYoung_84 : decode b_M_collectYoung 84 = .ok (.iload_n 1, 1) := by decide +kernel
theorem d_M_collectYoung_85 : decode b_M_collectYoung 85 = .ok (.iaload, 1) := by decide +kernel
theorem d_M_collectYoung_86 : decode b_M_collectYoung 86 = .ok (.imul, 1) := by decide +kernel
theorem d_M_collectYoung_87 : decode b_M_collectYoung 87 = .ok (.iload_n 2, 1) := by decide +kernel
theorem d_M_collectYoung_88 : decode b_M_collectYoung 88 = .ok (.iadd, 1) := by decide +kernel
theorem d_M_collectYoung_89 : decode b_M_collectYoung 89 = .ok (.iaload, 1) := by decide +kernel
theorem d_M_collectYoung_90 : decode b_M_collectYoung 90 = .ok (.invokevirtual 88, 3) := by decide +kernel
theorem d_M_collectYoung_93 : decode b_M_collectYoung 93 = .ok (.iinc 2 1, 3) := by decide +kernel
theorem d_M_collectYoung_96 : decode b_M_collectYoung 96 = .ok (.goto (-37), 3) := by decide +kernel
theorem d_M_collectYoung_99 : decode b_M_collectYoung 99 = .ok (.iinc 1 1, 3) := by decide +kernel
theorem d_M_collectYoung_102 : decode b_M_collectYoung 102 = .ok (.goto (-53), 3) := by decide +kernel
theorem d_M_collectYoung_105 : decode b_M_collectYoung 105 = .ok (.iconst 0, 1) := by decide +kernel
theorem d_M_collectYoung_106 : decode b_M_collectYoung 106 = .ok (.istore_n 1, 1) := by decide +kernel
theorem d_M_collectYoung_107 : decode b_M_collectYoung 107 = .ok (.iload_n 1, 1) := by decide +kernel
theorem d_M_collectYoung_108 : decode b_M_collectYoung 108 = .ok (.bipush 90, 2) := by decide +kernel
theorem d_M_collectYoung_110 : decode b_M_collectYoung 110 = .ok (.if_icmp .ge 33, 3) := by decide +kernel
theorem d_M_collectYoung_113 : decode b_M_collectYoung 113 = .ok (.aload_n 0, 1) := by decide +kernel
theorem d_M_collectYoung_114 : decode b_M_collectYoung 114 = .ok (.getfield 7, 3) := by decide +kernel
theorem d_M_collectYoung_117 : decode b_M_collectYoung 117 = .ok (.iload_n 1, 1) := by decide +kernel
theorem d_M_collectYoung_118 : decode b_M_collectYoung 118 = .ok (.iaload, 1) := by decide +kernel
theorem d_M_collectYoung_119 : decode b_M_collectYoung 119 = .ok (.iconst 1, 1) := by decide +kernel
theorem d_M_collectYoung_120 : decode b_M_collectYoung 120 = .ok (.if_icmp .ne 17, 3) := by decide +kernel
theorem d_M_collectYoung_123 : decode b_M_collectYoung 123 = .ok (.aload_n 0, 1) := by decide +kernel
theorem d_M_collectYoung_124 : decode b_M_collectYoung 124 = .ok (.getfield 50, 3) := by decide +kernel
theorem d_M_collectYoung_127 : decode b_M_collectYoung 127 = .ok (.iload_n 1, 1) := by decide +kernel
theorem d_M_collectYoung_128 : decode b_M_collectYoung 128 = .ok (.baload, 1) := by decide +kernel
theorem d_M_collectYoung_129 : decode b_M_collectYoung 129 = .ok (.ifCond .ne 8, 3) := by decide +kernel
theorem d_M_collectYoung_132 : decode b_M_collectYoung 132 = .ok (.aload_n 0, 1) := by decide +kernel
theorem d_M_collectYoung_133 : decode b_M_collectYoung 133 = .ok (.iload_n 1, 1) := by decide +kernel
theorem d_M_collectYoung_134 : decode b_M_collectYoung 134 = .ok (.invokevirtual 98, 3) := by decide +kernel
theorem d_M_collectYoung_137 : decode b_M_collectYoung 137 = .ok (.iinc 1 1, 3) := by decide +kernel
theorem d_M_collectYoung_140 : decode b_M_collectYoung 140 = .ok (.goto (-33), 3) := by decide +kernel
theorem d_M_collectYoung_143 : decode b_M_collectYoung 143 = .ok (.aload_n 0, 1) := by decide +kernel
theorem d_M_collectYoung_144 : decode b_M_collectYoung 144 = .ok (.iconst 0, 1) := by decide +kernel
theorem d_M_collectYoung_145 : decode b_M_collectYoung 145 = .ok (.putfield 101, 3) := by decide +kernel
theorem d_M_collectYoung_148 : decode b_M_collectYoung 148 = .ok (.iconst 0, 1) := by decide +kernel
theorem d_M_collectYoung_149 : decode b_M_collectYoung 149 = .ok (.istore_n 1, 1) := by decide +kernel
theorem d_M_collectYoung_150 : decode b_M_collectYoung 150 = .ok (.iload_n 1, 1) := by decide +kernel
theorem d_M_collectYoung_151 : decode b_M_collectYoung 151 = .ok (.aload_n 0, 1) := by decide +kernel
theorem d_M_collectYoung_152 : decode b_M_collectYoung 152 = .ok (.getfield 70, 3) := by decide +kernel
theorem d_M_collectYoung_155 : decode b_M_collectYoung 155 = .ok (.if_icmp .ge 49, 3) := by decide +kernel
theorem d_M_collectYoung_158 : decode b_M_collectYoung 158 = .ok (.aload_n 0, 1) := by decide +kernel
theorem d_M_collectYoung_159 : decode b_M_collectYoung 159 = .ok (.getfield 7, 3) := by decide +kernel
theorem d_M_collectYoung_162 : decode b_M_collectYoung 162 = .ok (.aload_n 0, 1) := by decide +kernel
theorem d_M_collectYoung_163 : decode b_M_collectYoung 163 = .ok (.getfield 47, 3) := by decide +kernel
theorem d_M_collectYoung_166 : decode b_M_collectYoung 166 = .ok (.iload_n 1, 1) := by decide +kernel
theorem d_M_collectYoung_167 : decode b_M_collectYoung 167 = .ok (.iaload, 1) := by decide +kernel
theorem d_M_collectYoung_168 : decode b_M_collectYoung 168 = .ok (.iaload, 1) := by decide +kernel
theorem d_M_collectYoung_169 : decode b_M_collectYoung 169 = .ok (.iconst 1, 1) := by decide +kernel
theorem d_M_collectYoung_170 : decode b_M_collectYoung 170 = .ok (.if_icmp .ne 28, 3) := by decide +kernel
theorem d_M_collectYoung_173 : decode b_M_collectYoung 173 = .ok (.aload_n 0, 1) := by decide +kernel
theorem d_M_collectYoung_174 : decode b_M_collectYoung 174 = .ok (.getfield 44, 3) := by decide +kernel
theorem d_M_collectYoung_177 : decode b_M_collectYoung 177 = .ok (.aload_n 0, 1) := by decide +kernel
theorem d_M_collectYoung_178 : decode b_M_collectYoung 178 = .ok (.getfield 101, 3) := by decide +kernel
theorem d_M_collectYoung_181 : decode b_M_collectYoung 181 = .ok (.aload_n 0, 1) := by decide +kernel
theorem d_M_collectYoung_182 : decode b_M_collectYoung 182 = .ok (.getfield 47, 3) := by decide +kernel
theorem d_M_collectYoung_185 : decode b_M_collectYoung 185 = .ok (.iload_n 1, 1) := by decide +kernel
theorem d_M_collectYoung_186 : decode b_M_collectYoung 186 = .ok (.iaload, 1) := by decide +kernel
theorem d_M_collectYoung_187 : decode b_M_collectYoung 187 = .ok (.iastore, 1) := by decide +kernel
theorem d_M_collectYoung_188 : decode b_M_collectYoung 188 = .ok (.aload_n 0, 1) := by decide +kernel
theorem d_M_collectYoung_189 : decode b_M_collectYoung 189 = .ok (.dup, 1) := by decide +kernel
theorem d_M_collectYoung_190 : decode b_M_collectYoung 190 = .ok (.getfield 101, 3) := by decide +kernel
theorem d_M_collectYoung_193 : decode b_M_collectYoung 193 = .ok (.iconst 1, 1) := by decide +kernel
theorem d_M_collectYoung_194 : decode b_M_collectYoung 194 = .ok (.iadd, 1) := by decide +kernel
theorem d_M_collectYoung_195 : decode b_M_collectYoung 195 = .ok (.putfield 101, 3) := by decide +kernel
theorem d_M_collectYoung_198 : decode b_M_collectYoung 198 = .ok (.iinc 1 1, 3) := by decide +kernel
theorem d_M_collectYoung_201 : decode b_M_collectYoung 201 = .ok (.goto (-51), 3) := by decide +kernel
theorem d_M_collectYoung_204 : decode b_M_collectYoung 204 = .ok (.iconst 0, 1) := by decide +kernel
theorem d_M_collectYoung_205 : decode b_M_collectYoung 205 = .ok (.istore_n 1, 1) := by decide +kernel
theorem d_M_collectYoung_206 : decode b_M_collectYoung 206 = .ok (.iload_n 1, 1) := by decide +kernel
theorem d_M_collectYoung_207 : decode b_M_collectYoung 207 = .ok (.bipush 8, 2) := by decide +kernel
theorem d_M_collectYoung_209 : decode b_M_collectYoung 209 = .ok (.if_icmp .ge 88, 3) := by decide +kernel
theorem d_M_collectYoung_212 : decode b_M_collectYoung 212 = .ok (.aload_n 0, 1) := by decide +kernel
theorem d_M_collectYoung_213 : decode b_M_collectYoung 213 = .ok (.getfield 38, 3) := by decide +kernel
theorem d_M_collectYoung_216 : decode b_M_collectYoung 216 = .ok (.iload_n 1, 1) := by decide +kernel
theorem d_M_collectYoung_217 : decode b_M_collectYoung 217 = .ok (.baload, 1) := by decide +kernel
theorem d_M_collectYoung_218 : decode b_M_collectYoung 218 = .ok (.ifCond .eq 15, 3) := by decide +kernel
theorem d_M_collectYoung_221 : decode b_M_collectYoung 221 = .ok (.aload_n 0, 1) := by decide +kernel
theorem d_M_collectYoung_222 : decode b_M_collectYoung 222 = .ok (.iload_n 1, 1) := by decide +kernel
theorem d_M_collectYoung_223 : decode b_M_collectYoung 223 = .ok (.invokevirtual 104, 3) := by decide +kernel
theorem d_M_collectYoung_226 : decode b_M_collectYoung 226 = .ok (.ifCond .ne 7, 3) := by decide +kernel
theorem d_M_collectYoung_229 : decode b_M_collectYoung 229 = .ok (.iconst 1, 1) := by decide +kernel
theorem d_M_collectYoung_230 : decode b_M_collectYoung 230 = .ok (.goto 4, 3) := by decide +kernel
theorem d_M_collectYoung_233 : decode b_M_collectYoung 233 = .ok (.iconst 0, 1) := by decide +kernel
theorem d_M_collectYoung_234 : decode b_M_collectYoung 234 = .ok (.istore_n 2, 1) := by decide +kernel
theorem d_M_collectYoung_235 : decode b_M_collectYoung 235 = .ok (.aload_n 0, 1) := by decide +kernel
theorem d_M_collectYoung_236 : decode b_M_collectYoung 236 = .ok (.getfield 41, 3) := by decide +kernel
theorem d_M_collectYoung_239 : decode b_M_collectYoung 239 = .ok (.iload_n 1, 1) := by decide +kernel
theorem d_M_collectYoung_240 : decode b_M_collectYoung 240 = .ok (.aload_n 0, 1) := by decide +kernel
theorem d_M_collectYoung_241 : decode b_M_collectYoung 241 = .ok (.getfield 41, 3) := by decide +kernel
theorem d_M_collectYoung_244 : decode b_M_collectYoung 244 = .ok (.iload_n 1, 1) := by decide +kernel
theorem d_M_collectYoung_245 : decode b_M_collectYoung 245 = .ok (.baload, 1) := by decide +kernel
theorem d_M_collectYoung_246 : decode b_M_collectYoung 246 = .ok (.ifCond .ne 15, 3) := by decide +kernel
theorem d_M_collectYoung_249 : decode b_M_collectYoung 249 = .ok (.iload_n 2, 1) := by decide +kernel
theorem d_M_collectYoung_250 : decode b_M_collectYoung 250 = .ok (.ifCond .eq 15, 3) := by decide +kernel
theorem d_M_collectYoung_253 : decode b_M_collectYoung 253 = .ok (.aload_n 0, 1) := by decide +kernel
theorem d_M_collectYoung_254 : decode b_M_collectYoung 254 = .ok (.getfield 81, 3) := by decide +kernel
theorem d_M_collectYoung_257 : decode b_M_collectYoung 257 = .ok (.iconst 1, 1) := by decide +kernel
theorem d_M_collectYoung_258 : decode b_M_collectYoung 258 = .ok (.if_icmp .ne 7, 3) := by decide +kernel
theorem d_M_collectYoung_261 : decode b_M_collectYoung 261 = .ok (.iconst 1, 1) := by decide +kernel
theorem d_M_collectYoung_262 : decode b_M_collectYoung 262 = .ok (.goto 4, 3) := by decide +kernel
theorem d_M_collectYoung_265 : decode b_M_collectYoung 265 = .ok (.iconst 0, 1) := by decide +kernel
theorem d_M_collectYoung_266 : decode b_M_collectYoung 266 = .ok (.bastore, 1) := by decide +kernel
theorem d_M_collectYoung_267 : decode b_M_collectYoung 267 = .ok (.aload_n 0, 1) := by decide +kernel
theorem d_M_collectYoung_268 : decode b_M_collectYoung 268 = .ok (.getfield 38, 3) := by decide +kernel
theorem d_M_collectYoung_271 : decode b_M_collectYoung 271 = .ok (.iload_n 1, 1) := by decide +kernel
theorem d_M_collectYoung_272 : decode b_M_collectYoung 272 = .ok (.aload_n 0, 1) := by decide +kernel
theorem d_M_collectYoung_273 : decode b_M_collectYoung 273 = .ok (.getfield 38, 3) := by decide +kernel
theorem d_M_collectYoung_276 : decode b_M_collectYoung 276 = .ok (.iload_n 1, 1) := by decide +kernel
theorem d_M_collectYoung_277 : decode b_M_collectYoung 277 = .ok (.baload, 1) := by decide +kernel
theorem d_M_collectYoung_278 : decode b_M_collectYoung 278 = .ok (.ifCond .eq 11, 3) := by decide +kernel
theorem d_M_collectYoung_281 : decode b_M_collectYoung 281 = .ok (.iload_n 2, 1) := by decide +kernel
theorem d_M_collectYoung_282 : decode b_M_collectYoung 282 = .ok (.ifCond .ne 7, 3) := by decide +kernel
theorem d_M_collectYoung_285 : decode b_M_collectYoung 285 = .ok (.iconst 1, 1) := by decide +kernel
theorem d_M_collectYoung_286 : decode b_M_collectYoung 286 = .ok (.goto 4, 3) := by decide +kernel
theorem d_M_collectYoung_289 : decode b_M_collectYoung 289 = .ok (.iconst 0, 1) := by decide +kernel
theorem d_M_collectYoung_290 : decode b_M_collectYoung 290 = .ok (.bastore, 1) := by decide +kernel
theorem d_M_collectYoung_291 : decode b_M_collectYoung 291 = .ok (.iinc 1 1, 3) := by decide +kernel
theorem d_M_collectYoung_294 : decode b_M_collectYoung 294 = .ok (.goto (-88), 3) := by decide +kernel
theorem d_M_collectYoung_297 : decode b_M_collectYoung 297 = .ok (.return_, 1) := by decide +kernel
theorem d_M_meetAll_0 : decode b_M_meetAll 0 = .ok (.iconst 0, 1) := by decide +kernel
theorem d_M_meetAll_1 : decode b_M_meetAll 1 = .ok (.istore_n 1, 1) := by decide +kernel
theorem d_M_meetAll_2 : decode b_M_meetAll 2 = .ok (.iload_n 1, 1) := by decide +kernel
theorem d_M_meetAll_3 : decode b_M_meetAll 3 = .ok (.bipush 6, 2) := by decide +kernel
theorem d_M_meetAll_5 : decode b_M_meetAll 5 = .ok (.if_icmp .ge 30, 3) := by decide +kernel
theorem d_M_meetAll_8 : decode b_M_meetAll 8 = .ok (.aload_n 0, 1) := by decide +kernel
theorem d_M_meetAll_9 : decode b_M_meetAll 9 = .ok (.getfield 35, 3) := by decide +kernel
theorem d_M_meetAll_12 : decode b_M_meetAll 12 = .ok (.iload_n 1, 1) := by decide +kernel
theorem d_M_meetAll_13 : decode b_M_meetAll 13 = .ok (.iaload, 1) := by decide +kernel
theorem d_M_meetAll_14 : decode b_M_meetAll 14 = .ok (.ifCond .lt 15, 3) := by decide +kernel
theorem d_M_meetAll_17 : decode b_M_meetAll 17 = .ok (.aload_n 0, 1) := by decide +kernel
theorem d_M_meetAll_18 : decode b_M_meetAll 18 = .ok (.getfield 50, 3) := by decide +kernel
theorem d_M_meetAll_21 : decode b_M_meetAll 21 = .ok (.aload_n 0, 1) := by decide +kernel
theorem d_M_meetAll_22 : decode b_M_meetAll 22 = .ok (.getfield 35, 3) := by decide +kernel
theorem d_M_meetAll_25 : decode b_M_meetAll 25 = .ok (.iload_n 1, 1) := by decide +kernel
theorem d_M_meetAll_26 : decode b_M_meetAll 26 = .ok (.iaload, 1) := by decide +kernel
theorem d_M_meetAll_27 : decode b_M_meetAll 27 = .ok (.iconst 1, 1) := by decide +kernel
theorem d_M_meetAll_28 : decode b_M_meetAll 28 = .ok (.bastore, 1) := by decide +kernel
theorem d_M_meetAll_29 : decode b_M_meetAll 29 = .ok (.iinc 1 1, 3) := by decide +kernel
theorem d_M_meetAll_32 : decode b_M_meetAll 32 = .ok (.goto (-30), 3) := by decide +kernel
theorem d_M_meetAll_35 : decode b_M_meetAll 35 = .ok (.iconst 1, 1) := by decide +kernel
theorem d_M_meetAll_36 : decode b_M_meetAll 36 = .ok (.istore_n 1, 1) := by decide +kernel
theorem d_M_meetAll_37 : decode b_M_meetAll 37 = .ok (.iconst 0, 1) := by decide +kernel
theorem d_M_meetAll_38 : decode b_M_meetAll 38 = .ok (.istore_n 2, 1) := by decide +kernel
theorem d_M_meetAll_39 : decode b_M_meetAll 39 = .ok (.iload_n 2, 1) := by decide +kernel
theorem d_M_meetAll_40 : decode b_M_meetAll 40 = .ok (.bipush 90, 2) := by decide +kernel
theorem d_M_meetAll_42 : decode b_M_meetAll 42 = .ok (.if_icmp .ge 109, 3) := by decide +kernel
theorem d_M_meetAll_45 : decode b_M_meetAll 45 = .ok (.iload_n 1, 1) := by decide +kernel
theorem d_M_meetAll_46 : decode b_M_meetAll 46 = .ok (.ifCond .eq 105, 3) := by decide +kernel
theorem d_M_meetAll_49 : decode b_M_meetAll 49 = .ok (.iconst 0, 1) := by decide +kernel
theorem d_M_meetAll_50 : decode b_M_meetAll 50 = .ok (.istore_n 1, 1) := by decide +kernel
theorem d_M_meetAll_51 : decode b_M_meetAll 51 = .ok (.iconst 0, 1) := by decide +kernel
theorem d_M_meetAll_52 : decode b_M_meetAll 52 = .ok (.istore_n 3, 1) := by decide +kernel
theorem d_M_meetAll_53 : decode b_M_meetAll 53 = .ok (.iload_n 3, 1) := by decide +kernel
theorem d_M_meetAll_54 : decode b_M_meetAll 54 = .ok (.bipush 90, 2) := by decide +kernel
theorem d_M_meetAll_56 : decode b_M_meetAll 56 = .ok (.if_icmp .ge 89, 3) := by decide +kernel
theorem d_M_meetAll_59 : decode b_M_meetAll 59 = .ok (.iconst 0, 1) := by decide +kernel
theorem d_M_meetAll_60 : decode b_M_meetAll 60 = .ok (.istore 4, 2) := by decide +kernel
theorem d_M_meetAll_62 : decode b_M_meetAll 62 = .ok (.aload_n 0, 1) := by decide +kernel
theorem d_M_meetAll_63 : decode b_M_meetAll 63 = .ok (.getfield 50, 3) := by decide +kernel
theorem d_M_meetAll_66 : decode b_M_meetAll 66 = .ok (.iload_n 3, 1) := by decide +kernel
theorem d_M_meetAll_67 : decode b_M_meetAll 67 = .ok (.baload, 1) := by decide +kernel
theorem d_M_meetAll_68 : decode b_M_meetAll 68 = .ok (.ifCond .eq 71, 3) := by decide +kernel
theorem d_M_meetAll_71 : decode b_M_meetAll 71 = .ok (.iload 4, 2) := by decide +kernel
theorem d_M_meetAll_73 : decode b_M_meetAll 73 = .ok (.aload_n 0, 1) := by decide +kernel
theorem d_M_meetAll_74 : decode b_M_meetAll 74 = .ok (.getfield 16, 3) := by decide +kernel
theorem d_M_meetAll_77 : decode b_M_meetAll 77 = .ok (.iload_n 3, 1) := by decide +kernel
theorem d_M_meetAll_78 : decode b_M_meetAll 78 = .ok (.iaload, 1) := by decide +kernel
theorem d_M_meetAll_79 : decode b_M_meetAll 79 = .ok (.if_icmp .ge 60, 3) := by decide +kernel
theorem d_M_meetAll_82 : decode b_M_meetAll 82 = .ok (.aload_n 0, 1) := by decide +kernel
theorem d_M_meetAll_83 : decode b_M_meetAll 83 = .ok (.getfield 19, 3) := by decide +kernel
theorem d_M_meetAll_86 : decode b_M_meetAll 86 = .ok (.iconst 3, 1) := by decide +kernel
theorem d_M_meetAll_87 : decode b_M_meetAll 87 = .ok (.iload_n 3, 1) := by decide +kernel
theorem d_M_meetAll_88 : decode b_M_meetAll 88 = .ok (.imul, 1) := by decide +kernel
theorem d_M_meetAll_89 : decode b_M_meetAll 89 = .ok (.iload 4, 2) := by decide +kernel
theorem d_M_meetAll_91 : decode b_M_meetAll 91 = .ok (.iadd, 1) := by decide +kernel
theorem d_M_meetAll_92 : decode b_M_meetAll 92 = .ok (.iaload, 1) := by decide +kernel
theorem d_M_meetAll_93 : decode b_M_meetAll 93 = .ok (.istore 5, 2) := by decide +kernel
theorem d_M_meetAll_95 : decode b_M_meetAll 95 = .ok (.iload_n 1, 1) := by decide +kernel
theorem d_M_meetAll_96 : decode b_M_meetAll 96 = .ok (.ifCond .ne 18, 3) := by decide +kernel
theorem d_M_meetAll_99 : decode b_M_meetAll 99 = .ok (.iload 5, 2) := by decide +kernel
theorem d_M_meetAll_101 : decode b_M_meetAll 101 = .ok (.ifCond .lt 17, 3) := by decide +kernel
theorem d_M_meetAll_104 : decode b_M_meetAll 104 = .ok (.aload_n 0, 1) := by decide +kernel
theorem d_M_meetAll_105 : decode b_M_meetAll 105 = .ok (.getfield 50, 3) := by decide +kernel
theorem d_M_meetAll_108 : decode b_M_meetAll 108 = .ok (.iload 5, 2) := by decide +kernel
theorem d_M_meetAll_110 : decode b_M_meetAll 110 = .ok (.baload, 1) := by decide +kernel
theorem d_M_meetAll_111 : decode b_M_meetAll 111 = .ok (.ifCond .ne 7, 3) := by decide +kernel
theorem d_M_meetAll_114 : decode b_M_meetAll 114 = .ok (.iconst 1, 1) := by decide +kernel
theorem d_M_meetAll_115 : decode b_M_meetAll 115 = .ok (.goto 4, 3) := by decide +kernel
theorem d_M_meetAll_118 : decode b_M_meetAll 118 = .ok (.iconst 0, 1) := by decide +kernel
theorem d_M_meetAll_119 : decode b_M_meetAll 119 = .ok (.istore_n 1, 1) := by decide +kernel
theorem d_M_meetAll_120 : decode b_M_meetAll 120 = .ok (.iload 5, 2) := by decide +kernel
theorem d_M_meetAll_122 : decode b_M_meetAll 122 = .ok (.ifCond .lt 11, 3) := by decide +kernel
theorem d_M_meetAll_125 : decode b_M_meetAll 125 = .ok (.aload_n 0, 1) := by decide +kernel
theorem d_M_meetAll_126 : decode b_M_meetAll 126 = .ok (.getfield 50, 3) := by decide +kernel
theorem d_M_meetAll_129 : decode b_M_meetAll 129 = .ok (.iload 5, 2) := by decide +kernel
theorem d_M_meetAll_131 : decode b_M_meetAll 131 = .ok (.iconst 1, 1) := by decide +kernel
theorem d_M_meetAll_132 : decode b_M_meetAll 132 = .ok (.bastore, 1) := by decide +kernel
theorem d_M_meetAll_133 : decode b_M_meetAll 133 = .ok (.iinc 4 1, 3) := by decide +kernel
theorem d_M_meetAll_136 : decode b_M_meetAll 136 = .ok (.goto (-74), 3) := by decide +kernel
theorem d_M_meetAll_139 : decode b_M_meetAll 139 = .ok (.iinc 3 1, 3) := by decide +kernel
theorem d_M_meetAll_142 : decode b_M_meetAll 142 = .ok (.goto (-89), 3) := by decide +kernel
theorem d_M_meetAll_145 : decode b_M_meetAll 145 = .ok (.iinc 2 1, 3) := by decide +kernel
theorem d_M_meetAll_148 : decode b_M_meetAll 148 = .ok (.goto (-109), 3) := by decide +kernel
theorem d_M_meetAll_151 : decode b_M_meetAll 151 = .ok (.return_, 1) := by decide +kernel
theorem d_M_slide_0 : decode b_M_slide 0 = .ok (.iconst 0, 1) := by decide +kernel
theorem d_M_slide_1 : decode b_M_slide 1 = .ok (.istore_n 1, 1) := by decide +kernel
theorem d_M_slide_2 : decode b_M_slide 2 = .ok (.iconst 0, 1) := by decide +kernel
theorem d_M_slide_3 : decode b_M_slide 3 = .ok (.istore_n 2, 1) := by decide +kernel
theorem d_M_slide_4 : decode b_M_slide 4 = .ok (.iload_n 2, 1) := by decide +kernel
theorem d_M_slide_5 : decode b_M_slide 5 = .ok (.bipush 64, 2) := by decide +kernel
theorem d_M_slide_7 : decode b_M_slide 7 = .ok (.if_icmp .ge 61, 3) := by decide +kernel
theorem d_M_slide_10 : decode b_M_slide 10 = .ok (.iconst 0, 1) := by decide +kernel
theorem d_M_slide_11 : decode b_M_slide 11 = .ok (.istore_n 3, 1) := by decide +kernel
theorem d_M_slide_12 : decode b_M_slide 12 = .ok (.iload_n 3, 1) := by decide +kernel
theorem d_M_slide_13 : decode b_M_slide 13 = .ok (.bipush 90, 2) := by decide +kernel
theorem d_M_slide_15 : decode b_M_slide 15 = .ok (.if_icmp .ge 47, 3) := by decide +kernel
theorem d_M_slide_18 : decode b_M_slide 18 = .ok (.aload_n 0, 1) := by decide +kernel
theorem d_M_slide_19 : decode b_M_slide 19 = .ok (.getfield 7, 3) := by decide +kernel
theorem d_M_slide_22 : decode b_M_slide 22 = .ok (.iload_n 3, 1) := by decide +kernel
theorem d_M_slide_23 : decode b_M_slide 23 = .ok (.iaload, 1) := by decide +kernel
theorem d_M_slide_24 : decode b_M_slide 24 = .ok (.iconst 2, 1) := by decide +kernel
theorem d_M_slide_25 : decode b_M_slide 25 = .ok (.if_icmp .ne 31, 3) := by decide +kernel
theorem d_M_slide_28 : decode b_M_slide 28 = .ok (.aload_n 0, 1) := by decide +kernel
theorem d_M_slide_29 : decode b_M_slide 29 = .ok (.getfield 59, 3) := by decide +kernel
theorem d_M_slide_32 : decode b_M_slide 32 = .ok (.iload_n 3, 1) := by decide +kernel
theorem d_M_slide_33 : decode b_M_slide 33 = .ok (.iaload, 1) := by decide +kernel
theorem d_M_slide_34 : decode b_M_slide 34 = .ok (.iload_n 2, 1) := by decide +kernel
theorem d_M_slide_35 : decode b_M_slide 35 = .ok (.if_icmp .ne 21, 3) := by decide +kernel
theorem d_M_slide_38 : decode b_M_slide 38 = .ok (.aload_n 0, 1) := by decide +kernel
theorem d_M_slide_39 : decode b_M_slide 39 = .ok (.getfield 25, 3) := by decide +kernel
theorem d_M_slide_42 : decode b_M_slide 42 = .ok (.iload_n 3, 1) := by decide +kernel
theorem d_M_slide_43 : decode b_M_slide 43 = .ok (.iload_n 1, 1) := by decide +kernel
theorem d_M_slide_44 : decode b_M_slide 44 = .ok (.iastore, 1) := by decide +kernel
theorem d_M_slide_45 : decode b_M_slide 45 = .ok (.iload_n 1, 1) := by decide +kernel
theorem d_M_slide_46 : decode b_M_slide 46 = .ok (.iconst 1, 1) := by decide +kernel
theorem d_M_slide_47 : decode b_M_slide 47 = .ok (.iadd, 1) := by decide +kernel
theorem d_M_slide_48 : decode b_M_slide 48 = .ok (.aload_n 0, 1) := by decide +kernel
theorem d_M_slide_49 : decode b_M_slide 49 = .ok (.getfield 16, 3) := by decide +kernel
theorem d_M_slide_52 : decode b_M_slide 52 = .ok (.iload_n 3, 1) := by decide +kernel
theorem d_M_slide_53 : decode b_M_slide 53 = .ok (.iaload, 1) := by decide +kernel
theorem d_M_slide_54 : decode b_M_slide 54 = .ok (.iadd, 1) := by decide +kernel
theorem d_M_slide_55 : decode b_M_slide 55 = .ok (.istore_n 1, 1) := by decide +kernel
theorem d_M_slide_56 : decode b_M_slide 56 = .ok (.iinc 3 1, 3) := by decide +kernel
theorem d_M_slide_59 : decode b_M_slide 59 = .ok (.goto (-47), 3) := by decide +kernel
theorem d_M_slide_62 : decode b_M_slide 62 = .ok (.iinc 2 1, 3) := by decide +kernel
theorem d_M_slide_65 : decode b_M_slide 65 = .ok (.goto (-61), 3) := by decide +kernel
theorem d_M_slide_68 : decode b_M_slide 68 = .ok (.return_, 1) := by decide +kernel
theorem d_M_collectFull_0 : decode b_M_collectFull 0 = .ok (.aload_n 0, 1) := by decide +kernel
theorem d_M_collectFull_1 : decode b_M_collectFull 1 = .ok (.invokevirtual 92, 3) := by decide +kernel
theorem d_M_collectFull_4 : decode b_M_collectFull 4 = .ok (.aload_n 0, 1) := by decide +kernel
theorem d_M_collectFull_5 : decode b_M_collectFull 5 = .ok (.invokevirtual 107, 3) := by decide +kernel
theorem d_M_collectFull_8 : decode b_M_collectFull 8 = .ok (.iconst 0, 1) := by decide +kernel
theorem d_M_collectFull_9 : decode b_M_collectFull 9 = .ok (.istore_n 1, 1) := by decide +kernel
theorem d_M_collectFull_10 : decode b_M_collectFull 10 = .ok (.iload_n 1, 1) := by decide +kernel
theorem d_M_collectFull_11 : decode b_M_collectFull 11 = .ok (.bipush 90, 2) := by decide +kernel
theorem d_M_collectFull_13 : decode b_M_collectFull 13 = .ok (.if_icmp .ge 32, 3) := by decide +kernel
theorem d_M_collectFull_16 : decode b_M_collectFull 16 = .ok (.aload_n 0, 1) := by decide +kernel
theorem d_M_collectFull_17 : decode b_M_collectFull 17 = .ok (.getfield 7, 3) := by decide +kernel
theorem d_M_collectFull_20 : decode b_M_collectFull 20 = .ok (.iload_n 1, 1) := by decide +kernel
theorem d_M_collectFull_21 : decode b_M_collectFull 21 = .ok (.iaload, 1) := by decide +kernel
theorem d_M_collectFull_22 : decode b_M_collectFull 22 = .ok (.ifCond .eq 17, 3) := by decide +kernel
theorem d_M_collectFull_25 : decode b_M_collectFull 25 = .ok (.aload_n 0, 1) := by decide +kernel
theorem d_M_collectFull_26 : decode b_M_collectFull 26 = .ok (.getfield 50, 3) := by decide +kernel
theorem d_M_collectFull_29 : decode b_M_collectFull 29 = .ok (.iload_n 1, 1) := by decide +kernel
theorem d_M_collectFull_30 : decode b_M_collectFull 30 = .ok (.baload, 1) := by decide +kernel
theorem d_M_collectFull_31 : decode b_M_collectFull 31 = .ok (.ifCond .ne 8, 3) := by decide +kernel
theorem d_M_collectFull_34 : decode b_M_collectFull 34 = .ok (.aload_n 0, 1) := by decide +kernel
theorem d_M_collectFull_35 : decode b_M_collectFull 35 = .ok (.iload_n 1, 1) := by decide +kernel
theorem d_M_collectFull_36 : decode b_M_collectFull 36 = .ok (.invokevirtual 98, 3) := by decide +kernel
theorem d_M_collectFull_39 : decode b_M_collectFull 39 = .ok (.iinc 1 1, 3) := by decide +kernel
theorem d_M_collectFull_42 : decode b_M_collectFull 42 = .ok (.goto (-32), 3) := by decide +kernel
theorem d_M_collectFull_45 : decode b_M_collectFull 45 = .ok (.aload_n 0, 1) := by decide +kernel
theorem d_M_collectFull_46 : decode b_M_collectFull 46 = .ok (.invokevirtual 110, 3) := by decide +kernel
theorem d_M_collectFull_49 : decode b_M_collectFull 49 = .ok (.iconst 0, 1) := by decide +kernel
theorem d_M_collectFull_50 : decode b_M_collectFull 50 = .ok (.istore_n 1, 1) := by decide +kernel
theorem d_M_collectFull_51 : decode b_M_collectFull 51 = .ok (.iconst 1, 1) := by decide +kernel
theorem d_M_collectFull_52 : decode b_M_collectFull 52 = .ok (.istore_n 2, 1) := by decide +kernel
theorem d_M_collectFull_53 : decode b_M_collectFull 53 = .ok (.iconst 0, 1) := by decide +kernel
theorem d_M_collectFull_54 : decode b_M_collectFull 54 = .ok (.istore_n 3, 1) := by decide +kernel
theorem d_M_collectFull_55 : decode b_M_collectFull 55 = .ok (.iload_n 3, 1) := by decide +kernel
theorem d_M_collectFull_56 : decode b_M_collectFull 56 = .ok (.aload_n 0, 1) := by decide +kernel
theorem d_M_collectFull_57 : decode b_M_collectFull 57 = .ok (.getfield 101, 3) := by decide +kernel
theorem d_M_collectFull_60 : decode b_M_collectFull 60 = .ok (.if_icmp .ge 88, 3) := by decide +kernel
theorem d_M_collectFull_63 : decode b_M_collectFull 63 = .ok (.aload_n 0, 1) := by decide +kernel
theorem d_M_collectFull_64 : decode b_M_collectFull 64 = .ok (.getfield 44, 3) := by decide +kernel
theorem d_M_collectFull_67 : decode b_M_collectFull 67 = .ok (.iload_n 3, 1) := by decide +kernel
theorem d_M_collectFull_68 : decode b_M_collectFull 68 = .ok (.iaload, 1) := by decide +kernel
theorem d_M_collectFull_69 : decode b_M_collectFull 69 = .ok (.istore 4, 2) := by decide +kernel
theorem d_M_collectFull_71 : decode b_M_collectFull 71 = .ok (.aload_n 0, 1) := by decide +kernel
theorem d_M_collectFull_72 : decode b_M_collectFull 72 = .ok (.getfield 7, 3) := by decide +kernel
theorem d_M_collectFull_75 : decode b_M_collectFull 75 = .ok (.iload 4, 2) := by decide +kernel
theorem d_M_collectFull_77 : decode b_M_collectFull 77 = .ok (.iaload, 1) := by decide +kernel
theorem d_M_collectFull_78 : decode b_M_collectFull 78 = .ok (.iconst 1, 1) := by decide +kernel
theorem d_M_collectFull_79 : decode b_M_collectFull 79 = .ok (.if_icmp .ne 63, 3) := by decide +kernel
theorem d_M_collectFull_82 : decode b_M_collectFull 82 = .ok (.iload_n 2, 1) := by decide +kernel
theorem d_M_collectFull_83 : decode b_M_collectFull 83 = .ok (.ifCond .eq 19, 3) := by decide +kernel
theorem d_M_collectFull_86 : decode b_M_collectFull 86 = .ok (.aload_n 0, 1) := by decide +kernel
theorem d_M_collectFull_87 : decode b_M_collectFull 87 = .ok (.iconst 1, 1) := by decide +kernel
theorem d_M_collectFull_88 : decode b_M_collectFull 88 = .ok (.aload_n 0, 1) := by decide +kernel
theorem d_M_collectFull_89 : decode b_M_collectFull 89 = .ok (.getfield 16, 3) := by decide +kernel
theorem d_M_collectFull_92 : decode b_M_collectFull 92 = .ok (.iload 4, 2) := by decide +kernel
theorem d_M_collectFull_94 : decode b_M_collectFull 94 = .ok (.iaload, 1) := by decide +kernel
theorem d_M_collectFull_95 : decode b_M_collectFull 95 = .ok (.iadd, 1) := by decide +kernel
theorem d_M_collectFull_96 : decode b_M_collectFull 96 = .ok (.invokevirtual 73, 3) := by decide +kernel
theorem d_M_collectFull_99 : decode b_M_collectFull 99 = .ok (.goto 4, 3) := by decide +kernel
theorem d_M_collectFull_102 : decode b_M_collectFull 102 = .ok (.iconst (-1), 1) := by decide +kernel
theorem d_M_collectFull_103 : decode b_M_collectFull 103 = .ok (.istore 5, 2) := by decide +kernel
theorem d_M_collectFull_105 : decode b_M_collectFull 105 = .ok (.iload 5, 2) := by decide +kernel
theorem d_M_collectFull_107 : decode b_M_collectFull 107 = .ok (.ifCond .lt 7, 3) := by decide +kernel
theorem d_M_collectFull_110 : decode b_M_collectFull 110 = .ok (.iconst 1, 1) := by decide +kernel
theorem d_M_collectFull_111 : decode b_M_collectFull 111 = .ok (.goto 4, 3) := by decide +kernel
theorem d_M_collectFull_114 : decode b_M_collectFull 114 = .ok (.iconst 0, 1) := by decide +kernel
theorem d_M_collectFull_115 : decode b_M_collectFull 115 = .ok (.istore_n 2, 1) := by decide +kernel
theorem d_M_collectFull_116 : decode b_M_collectFull 116 = .ok (.iload_n 2, 1) := by decide +kernel
theorem d_M_collectFull_117 : decode b_M_collectFull 117 = .ok (.ifCond .eq 14, 3) := by decide +kernel
theorem d_M_collectFull_120 : decode b_M_collectFull 120 = .ok (.aload_n 0, 1) := by decide +kernel
theorem d_M_collectFull_121 : decode b_M_collectFull 121 = .ok (.iload 4, 2) := by decide +kernel
theorem d_M_collectFull_123 : decode b_M_collectFull 123 = .ok (.iload 5, 2) := by decide +kernel
