theorem d_M_collectFull_125 : decode b_M_collectFull 125 = .ok (.invokevirtual 77, 3) := by decide +kernel
theorem d_M_collectFull_128 : decode b_M_collectFull 128 = .ok (.goto 14, 3) := by decide +kernel
theorem d_M_collectFull_131 : decode b_M_collectFull 131 = .ok (.aload_n 0, 1) := by decide +kernel
theorem d_M_collectFull_132 : decode b_M_collectFull 132 = .ok (.getfield 44, 3) := by decide +kernel
theorem d_M_collectFull_135 : decode b_M_collectFull 135 = .ok (.iload_n 1, 1) := by decide +kernel
theorem d_M_collectFull_136 : decode b_M_collectFull 136 = .ok (.iload 4, 2) := by decide +kernel
theorem d_M_collectFull_138 : decode b_M_collectFull 138 = .ok (.iastore, 1) := by decide +kernel
theorem d_M_collectFull_139 : decode b_M_collectFull 139 = .ok (.iinc 1 1, 3) := by decide +kernel
theorem d_M_collectFull_142 : decode b_M_collectFull 142 = .ok (.iinc 3 1, 3) := by decide +kernel
theorem d_M_collectFull_145 : decode b_M_collectFull 145 = .ok (.goto (-90), 3) := by decide +kernel
theorem d_M_collectFull_148 : decode b_M_collectFull 148 = .ok (.aload_n 0, 1) := by decide +kernel
theorem d_M_collectFull_149 : decode b_M_collectFull 149 = .ok (.iload_n 1, 1) := by decide +kernel
theorem d_M_collectFull_150 : decode b_M_collectFull 150 = .ok (.putfield 101, 3) := by decide +kernel
theorem d_M_collectFull_153 : decode b_M_collectFull 153 = .ok (.aload_n 0, 1) := by decide +kernel
theorem d_M_collectFull_154 : decode b_M_collectFull 154 = .ok (.iconst 0, 1) := by decide +kernel
theorem d_M_collectFull_155 : decode b_M_collectFull 155 = .ok (.putfield 81, 3) := by decide +kernel
theorem d_M_collectFull_158 : decode b_M_collectFull 158 = .ok (.iconst 0, 1) := by decide +kernel
theorem d_M_collectFull_159 : decode b_M_collectFull 159 = .ok (.istore_n 3, 1) := by decide +kernel
theorem d_M_collectFull_160 : decode b_M_collectFull 160 = .ok (.iload_n 3, 1) := by decide +kernel
theorem d_M_collectFull_161 : decode b_M_collectFull 161 = .ok (.bipush 90, 2) := by decide +kernel
theorem d_M_collectFull_163 : decode b_M_collectFull 163 = .ok (.if_icmp .ge 23, 3) := by decide +kernel
theorem d_M_collectFull_166 : decode b_M_collectFull 166 = .ok (.aload_n 0, 1) := by decide +kernel
theorem d_M_collectFull_167 : decode b_M_collectFull 167 = .ok (.getfield 28, 3) := by decide +kernel
theorem d_M_collectFull_170 : decode b_M_collectFull 170 = .ok (.iload_n 3, 1) := by decide +kernel
theorem d_M_collectFull_171 : decode b_M_collectFull 171 = .ok (.iconst 0, 1) := by decide +kernel
theorem d_M_collectFull_172 : decode b_M_collectFull 172 = .ok (.bastore, 1) := by decide +kernel
theorem d_M_collectFull_173 : decode b_M_collectFull 173 = .ok (.aload_n 0, 1) := by decide +kernel
theorem d_M_collectFull_174 : decode b_M_collectFull 174 = .ok (.getfield 32, 3) := by decide +kernel
theorem d_M_collectFull_177 : decode b_M_collectFull 177 = .ok (.iload_n 3, 1) := by decide +kernel
theorem d_M_collectFull_178 : decode b_M_collectFull 178 = .ok (.iconst 0, 1) := by decide +kernel
theorem d_M_collectFull_179 : decode b_M_collectFull 179 = .ok (.bastore, 1) := by decide +kernel
theorem d_M_collectFull_180 : decode b_M_collectFull 180 = .ok (.iinc 3 1, 3) := by decide +kernel
theorem d_M_collectFull_183 : decode b_M_collectFull 183 = .ok (.goto (-23), 3) := by decide +kernel
theorem d_M_collectFull_186 : decode b_M_collectFull 186 = .ok (.iconst 0, 1) := by decide +kernel
theorem d_M_collectFull_187 : decode b_M_collectFull 187 = .ok (.istore_n 3, 1) := by decide +kernel
theorem d_M_collectFull_188 : decode b_M_collectFull 188 = .ok (.iload_n 3, 1) := by decide +kernel
theorem d_M_collectFull_189 : decode b_M_collectFull 189 = .ok (.bipush 8, 2) := by decide +kernel
theorem d_M_collectFull_191 : decode b_M_collectFull 191 = .ok (.if_icmp .ge 27, 3) := by decide +kernel
theorem d_M_collectFull_194 : decode b_M_collectFull 194 = .ok (.aload_n 0, 1) := by decide +kernel
theorem d_M_collectFull_195 : decode b_M_collectFull 195 = .ok (.getfield 41, 3) := by decide +kernel
theorem d_M_collectFull_198 : decode b_M_collectFull 198 = .ok (.iload_n 3, 1) := by decide +kernel
theorem d_M_collectFull_199 : decode b_M_collectFull 199 = .ok (.iconst 0, 1) := by decide +kernel
theorem d_M_collectFull_200 : decode b_M_collectFull 200 = .ok (.bastore, 1) := by decide +kernel
theorem d_M_collectFull_201 : decode b_M_collectFull 201 = .ok (.aload_n 0, 1) := by decide +kernel
theorem d_M_collectFull_202 : decode b_M_collectFull 202 = .ok (.getfield 38, 3) := by decide +kernel
theorem d_M_collectFull_205 : decode b_M_collectFull 205 = .ok (.iload_n 3, 1) := by decide +kernel
theorem d_M_collectFull_206 : decode b_M_collectFull 206 = .ok (.aload_n 0, 1) := by decide +kernel
theorem d_M_collectFull_207 : decode b_M_collectFull 207 = .ok (.iload_n 3, 1) := by decide +kernel
theorem d_M_collectFull_208 : decode b_M_collectFull 208 = .ok (.invokevirtual 104, 3) := by decide +kernel
theorem d_M_collectFull_211 : decode b_M_collectFull 211 = .ok (.bastore, 1) := by decide +kernel
theorem d_M_collectFull_212 : decode b_M_collectFull 212 = .ok (.iinc 3 1, 3) := by decide +kernel
theorem d_M_collectFull_215 : decode b_M_collectFull 215 = .ok (.goto (-27), 3) := by decide +kernel
theorem d_M_collectFull_218 : decode b_M_collectFull 218 = .ok (.return_, 1) := by decide +kernel
theorem d_M_collect_0 : decode b_M_collect 0 = .ok (.iload_n 1, 1) := by decide +kernel
theorem d_M_collect_1 : decode b_M_collect 1 = .ok (.ifCond .eq 10, 3) := by decide +kernel
theorem d_M_collect_4 : decode b_M_collect 4 = .ok (.aload_n 0, 1) := by decide +kernel
theorem d_M_collect_5 : decode b_M_collect 5 = .ok (.invokevirtual 113, 3) := by decide +kernel
theorem d_M_collect_8 : decode b_M_collect 8 = .ok (.goto 7, 3) := by decide +kernel
theorem d_M_collect_11 : decode b_M_collect 11 = .ok (.aload_n 0, 1) := by decide +kernel
theorem d_M_collect_12 : decode b_M_collect 12 = .ok (.invokevirtual 116, 3) := by decide +kernel
theorem d_M_collect_15 : decode b_M_collect 15 = .ok (.aload_n 0, 1) := by decide +kernel
theorem d_M_collect_16 : decode b_M_collect 16 = .ok (.getfield 66, 3) := by decide +kernel
theorem d_M_collect_19 : decode b_M_collect 19 = .ok (.ireturn, 1) := by decide +kernel
theorem d_M_create_0 : decode b_M_create 0 = .ok (.iload_n 1, 1) := by decide +kernel
theorem d_M_create_1 : decode b_M_create 1 = .ok (.invokestatic 119, 3) := by decide +kernel
theorem d_M_create_4 : decode b_M_create 4 = .ok (.ifCond .ne 6, 3) := by decide +kernel
theorem d_M_create_7 : decode b_M_create 7 = .ok (.bipush (-2), 2) := by decide +kernel
theorem d_M_create_9 : decode b_M_create 9 = .ok (.ireturn, 1) := by decide +kernel
theorem d_M_create_10 : decode b_M_create 10 = .ok (.iload_n 2, 1) := by decide +kernel
theorem d_M_create_11 : decode b_M_create 11 = .ok (.ifCond .lt 8, 3) := by decide +kernel
theorem d_M_create_14 : decode b_M_create 14 = .ok (.iload_n 2, 1) := by decide +kernel
theorem d_M_create_15 : decode b_M_create 15 = .ok (.iconst 3, 1) := by decide +kernel
theorem d_M_create_16 : decode b_M_create 16 = .ok (.if_icmp .le 6, 3) := by decide +kernel
theorem d_M_create_19 : decode b_M_create 19 = .ok (.bipush (-4), 2) := by decide +kernel
theorem d_M_create_21 : decode b_M_create 21 = .ok (.ireturn, 1) := by decide +kernel
theorem d_M_create_22 : decode b_M_create 22 = .ok (.aload_n 0, 1) := by decide +kernel
theorem d_M_create_23 : decode b_M_create 23 = .ok (.invokevirtual 122, 3) := by decide +kernel
theorem d_M_create_26 : decode b_M_create 26 = .ok (.iconst 1, 1) := by decide +kernel
theorem d_M_create_27 : decode b_M_create 27 = .ok (.iadd, 1) := by decide +kernel
theorem d_M_create_28 : decode b_M_create 28 = .ok (.iload_n 2, 1) := by decide +kernel
theorem d_M_create_29 : decode b_M_create 29 = .ok (.iadd, 1) := by decide +kernel
theorem d_M_create_30 : decode b_M_create 30 = .ok (.bipush 20, 2) := by decide +kernel
theorem d_M_create_32 : decode b_M_create 32 = .ok (.if_icmp .le 7, 3) := by decide +kernel
theorem d_M_create_35 : decode b_M_create 35 = .ok (.aload_n 0, 1) := by decide +kernel
theorem d_M_create_36 : decode b_M_create 36 = .ok (.invokevirtual 116, 3) := by decide +kernel
theorem d_M_create_39 : decode b_M_create 39 = .ok (.aload_n 0, 1) := by decide +kernel
theorem d_M_create_40 : decode b_M_create 40 = .ok (.invokevirtual 122, 3) := by decide +kernel
theorem d_M_create_43 : decode b_M_create 43 = .ok (.iconst 1, 1) := by decide +kernel
theorem d_M_create_44 : decode b_M_create 44 = .ok (.iadd, 1) := by decide +kernel
theorem d_M_create_45 : decode b_M_create 45 = .ok (.iload_n 2, 1) := by decide +kernel
theorem d_M_create_46 : decode b_M_create 46 = .ok (.iadd, 1) := by decide +kernel
theorem d_M_create_47 : decode b_M_create 47 = .ok (.bipush 20, 2) := by decide +kernel
theorem d_M_create_49 : decode b_M_create 49 = .ok (.if_icmp .le 7, 3) := by decide +kernel
theorem d_M_create_52 : decode b_M_create 52 = .ok (.aload_n 0, 1) := by decide +kernel
theorem d_M_create_53 : decode b_M_create 53 = .ok (.invokevirtual 113, 3) := by decide +kernel
theorem d_M_create_56 : decode b_M_create 56 = .ok (.aload_n 0, 1) := by decide +kernel
theorem d_M_create_57 : decode b_M_create 57 = .ok (.invokevirtual 122, 3) := by decide +kernel
theorem d_M_create_60 : decode b_M_create 60 = .ok (.iconst 1, 1) := by decide +kernel
theorem d_M_create_61 : decode b_M_create 61 = .ok (.iadd, 1) := by decide +kernel
theorem d_M_create_62 : decode b_M_create 62 = .ok (.iload_n 2, 1) := by decide +kernel
theorem d_M_create_63 : decode b_M_create 63 = .ok (.iadd, 1) := by decide +kernel
theorem d_M_create_64 : decode b_M_create 64 = .ok (.bipush 20, 2) := by decide +kernel
theorem d_M_create_66 : decode b_M_create 66 = .ok (.if_icmp .le 6, 3) := by decide +kernel
theorem d_M_create_69 : decode b_M_create 69 = .ok (.bipush (-5), 2) := by decide +kernel
theorem d_M_create_71 : decode b_M_create 71 = .ok (.ireturn, 1) := by decide +kernel
theorem d_M_create_72 : decode b_M_create 72 = .ok (.iconst 0, 1) := by decide +kernel
theorem d_M_create_73 : decode b_M_create 73 = .ok (.istore 4, 2) := by decide +kernel
theorem d_M_create_75 : decode b_M_create 75 = .ok (.aload_n 0, 1) := by decide +kernel
theorem d_M_create_76 : decode b_M_create 76 = .ok (.getfield 7, 3) := by decide +kernel
theorem d_M_create_79 : decode b_M_create 79 = .ok (.iload 4, 2) := by decide +kernel
theorem d_M_create_81 : decode b_M_create 81 = .ok (.iaload, 1) := by decide +kernel
theorem d_M_create_82 : decode b_M_create 82 = .ok (.ifCond .eq 9, 3) := by decide +kernel
theorem d_M_create_85 : decode b_M_create 85 = .ok (.iinc 4 1, 3) := by decide +kernel
theorem d_M_create_88 : decode b_M_create 88 = .ok (.goto (-13), 3) := by decide +kernel
theorem d_M_create_91 : decode b_M_create 91 = .ok (.aload_n 0, 1) := by decide +kernel
theorem d_M_create_92 : decode b_M_create 92 = .ok (.getfield 7, 3) := by decide +kernel
theorem d_M_create_95 : decode b_M_create 95 = .ok (.iload 4, 2) := by decide +kernel
theorem d_M_create_97 : decode b_M_create 97 = .ok (.iconst 1, 1) := by decide +kernel
theorem d_M_create_98 : decode b_M_create 98 = .ok (.iastore, 1) := by decide +kernel
theorem d_M_create_99 : decode b_M_create 99 = .ok (.aload_n 0, 1) := by decide +kernel
theorem d_M_create_100 : decode b_M_create 100 = .ok (.getfield 13, 3) := by decide +kernel
theorem d_M_create_103 : decode b_M_create 103 = .ok (.iload 4, 2) := by decide +kernel
theorem d_M_create_105 : decode b_M_create 105 = .ok (.iload_n 3, 1) := by decide +kernel
theorem d_M_create_106 : decode b_M_create 106 = .ok (.iastore, 1) := by decide +kernel
theorem d_M_create_107 : decode b_M_create 107 = .ok (.aload_n 0, 1) := by decide +kernel
theorem d_M_create_108 : decode b_M_create 108 = .ok (.getfield 16, 3) := by decide +kernel
theorem d_M_create_111 : decode b_M_create 111 = .ok (.iload 4, 2) := by decide +kernel
theorem d_M_create_113 : decode b_M_create 113 = .ok (.iload_n 2, 1) := by decide +kernel
theorem d_M_create_114 : decode b_M_create 114 = .ok (.iastore, 1) := by decide +kernel
theorem d_M_create_115 : decode b_M_create 115 = .ok (.aload_n 0, 1) := by decide +kernel
theorem d_M_create_116 : decode b_M_create 116 = .ok (.getfield 22, 3) := by decide +kernel
theorem d_M_create_119 : decode b_M_create 119 = .ok (.iload 4, 2) := by decide +kernel
theorem d_M_create_121 : decode b_M_create 121 = .ok (.iconst 0, 1) := by decide +kernel
theorem d_M_create_122 : decode b_M_create 122 = .ok (.iastore, 1) := by decide +kernel
theorem d_M_create_123 : decode b_M_create 123 = .ok (.iconst 0, 1) := by decide +kernel
theorem d_M_create_124 : decode b_M_create 124 = .ok (.istore 5, 2) := by decide +kernel
theorem d_M_create_126 : decode b_M_create 126 = .ok (.iload 5, 2) := by decide +kernel
theorem d_M_create_128 : decode b_M_create 128 = .ok (.iconst 3, 1) := by decide +kernel
theorem d_M_create_129 : decode b_M_create 129 = .ok (.if_icmp .ge 22, 3) := by decide +kernel
theorem d_M_create_132 : decode b_M_create 132 = .ok (.aload_n 0, 1) := by decide +kernel
theorem d_M_create_133 : decode b_M_create 133 = .ok (.getfield 19, 3) := by decide +kernel
theorem d_M_create_136 : decode b_M_create 136 = .ok (.iconst 3, 1) := by decide +kernel
theorem d_M_create_137 : decode b_M_create 137 = .ok (.iload 4, 2) := by decide +kernel
theorem d_M_create_139 : decode b_M_create 139 = .ok (.imul, 1) := by decide +kernel
theorem d_M_create_140 : decode b_M_create 140 = .ok (.iload 5, 2) := by decide +kernel
theorem d_M_create_142 : decode b_M_create 142 = .ok (.iadd, 1) := by decide +kernel
theorem d_M_create_143 : decode b_M_create 143 = .ok (.iconst (-1), 1) := by decide +kernel
theorem d_M_create_144 : decode b_M_create 144 = .ok (.iastore, 1) := by decide +kernel
theorem d_M_create_145 : decode b_M_create 145 = .ok (.iinc 5 1, 3) := by decide +kernel
theorem d_M_create_148 : decode b_M_create 148 = .ok (.goto (-22), 3) := by decide +kernel
theorem d_M_create_151 : decode b_M_create 151 = .ok (.aload_n 0, 1) := by decide +kernel
theorem d_M_create_152 : decode b_M_create 152 = .ok (.getfield 44, 3) := by decide +kernel
theorem d_M_create_155 : decode b_M_create 155 = .ok (.aload_n 0, 1) := by decide +kernel
theorem d_M_create_156 : decode b_M_create 156 = .ok (.getfield 101, 3) := by decide +kernel
theorem d_M_create_159 : decode b_M_create 159 = .ok (.iload 4, 2) := by decide +kernel
theorem d_M_create_161 : decode b_M_create 161 = .ok (.iastore, 1) := by decide +kernel
theorem d_M_create_162 : decode b_M_create 162 = .ok (.aload_n 0, 1) := by decide +kernel
theorem d_M_create_163 : decode b_M_create 163 = .ok (.dup, 1) := by decide +kernel
theorem d_M_create_164 : decode b_M_create 164 = .ok (.getfield 101, 3) := by decide +kernel
theorem d_M_create_167 : decode b_M_create 167 = .ok (.iconst 1, 1) := by decide +kernel
theorem d_M_create_168 : decode b_M_create 168 = .ok (.iadd, 1) := by decide +kernel
theorem d_M_create_169 : decode b_M_create 169 = .ok (.putfield 101, 3) := by decide +kernel
theorem d_M_create_172 : decode b_M_create 172 = .ok (.aload_n 0, 1) := by decide +kernel
theorem d_M_create_173 : decode b_M_create 173 = .ok (.getfield 35, 3) := by decide +kernel
theorem d_M_create_176 : decode b_M_create 176 = .ok (.iload_n 1, 1) := by decide +kernel
theorem d_M_create_177 : decode b_M_create 177 = .ok (.iload 4, 2) := by decide +kernel
theorem d_M_create_179 : decode b_M_create 179 = .ok (.iastore, 1) := by decide +kernel
theorem d_M_create_180 : decode b_M_create 180 = .ok (.iconst 0, 1) := by decide +kernel
theorem d_M_create_181 : decode b_M_create 181 = .ok (.ireturn, 1) := by decide +kernel
theorem d_M_clear_0 : decode b_M_clear 0 = .ok (.iload_n 1, 1) := by decide +kernel
theorem d_M_clear_1 : decode b_M_clear 1 = .ok (.invokestatic 119, 3) := by decide +kernel
theorem d_M_clear_4 : decode b_M_clear 4 = .ok (.ifCond .ne 5, 3) := by decide +kernel
theorem d_M_clear_7 : decode b_M_clear 7 = .ok (.iconst 0, 1) := by decide +kernel
theorem d_M_clear_8 : decode b_M_clear 8 = .ok (.ireturn, 1) := by decide +kernel
theorem d_M_clear_9 : decode b_M_clear 9 = .ok (.aload_n 0, 1) := by decide +kernel
theorem d_M_clear_10 : decode b_M_clear 10 = .ok (.getfield 35, 3) := by decide +kernel
theorem d_M_clear_13 : decode b_M_clear 13 = .ok (.iload_n 1, 1) := by decide +kernel
theorem d_M_clear_14 : decode b_M_clear 14 = .ok (.iconst (-1), 1) := by decide +kernel
theorem d_M_clear_15 : decode b_M_clear 15 = .ok (.iastore, 1) := by decide +kernel
theorem d_M_clear_16 : decode b_M_clear 16 = .ok (.iconst 1, 1) := by decide +kernel
theorem d_M_clear_17 : decode b_M_clear 17 = .ok (.ireturn, 1) := by decide +kernel
theorem d_M_copy_0 : decode b_M_copy 0 = .ok (.iload_n 1, 1) := by decide +kernel
theorem d_M_copy_1 : decode b_M_copy 1 = .ok (.invokestatic 119, 3) := by decide +kernel
theorem d_M_copy_4 : decode b_M_copy 4 = .ok (.ifCond .eq 10, 3) := by decide +kernel
theorem d_M_copy_7 : decode b_M_copy 7 = .ok (.iload_n 2, 1) := by decide +kernel
theorem d_M_copy_8 : decode b_M_copy 8 = .ok (.invokestatic 119, 3) := by decide +kernel
theorem d_M_copy_11 : decode b_M_copy 11 = .ok (.ifCond .ne 5, 3) := by decide +kernel
theorem d_M_copy_14 : decode b_M_copy 14 = .ok (.iconst 0, 1) := by decide +kernel
theorem d_M_copy_15 : decode b_M_copy 15 = .ok (.ireturn, 1) := by decide +kernel
theorem d_M_copy_16 : decode b_M_copy 16 = .ok (.aload_n 0, 1) := by decide +kernel
theorem d_M_copy_17 : decode b_M_copy 17 = .ok (.getfield 35, 3) := by decide +kernel
theorem d_M_copy_20 : decode b_M_copy 20 = .ok (.iload_n 1, 1) := by decide +kernel
theorem d_M_copy_21 : decode b_M_copy 21 = .ok (.aload_n 0, 1) := by decide +kernel
theorem d_M_copy_22 : decode b_M_copy 22 = .ok (.getfield 35, 3) := by decide +kernel
theorem d_M_copy_25 : decode b_M_copy 25 = .ok (.iload_n 2, 1) := by decide +kernel
theorem d_M_copy_26 : decode b_M_copy 26 = .ok (.iaload, 1) := by decide +kernel
theorem d_M_copy_27 : decode b_M_copy 27 = .ok (.iastore, 1) := by decide +kernel
theorem d_M_copy_28 : decode b_M_copy 28 = .ok (.iconst 1, 1) := by decide +kernel
theorem d_M_copy_29 : decode b_M_copy 29 = .ok (.ireturn, 1) := by decide +kernel
theorem d_M_check_0 : decode b_M_check 0 = .ok (.iload_n 1, 1) := by decide +kernel
theorem d_M_check_1 : decode b_M_check 1 = .ok (.invokestatic 119, 3) := by decide +kernel
theorem d_M_check_4 : decode b_M_check 4 = .ok (.ifCond .eq 10, 3) := by decide +kernel
theorem d_M_check_7 : decode b_M_check 7 = .ok (.iload_n 2, 1) := by decide +kernel
theorem d_M_check_8 : decode b_M_check 8 = .ok (.invokestatic 119, 3) := by decide +kernel
theorem d_M_check_11 : decode b_M_check 11 = .ok (.ifCond .ne 6, 3) := by decide +kernel
theorem d_M_check_14 : decode b_M_check 14 = .ok (.bipush (-2), 2) := by decide +kernel
theorem d_M_check_16 : decode b_M_check 16 = .ok (.ireturn, 1) := by decide +kernel
theorem d_M_check_17 : decode b_M_check 17 = .ok (.aload_n 0, 1) := by decide +kernel
theorem d_M_check_18 : decode b_M_check 18 = .ok (.getfield 35, 3) := by decide +kernel
theorem d_M_check_21 : decode b_M_check 21 = .ok (.iload_n 2, 1) := by decide +kernel
theorem d_M_check_22 : decode b_M_check 22 = .ok (.iaload, 1) := by decide +kernel
theorem d_M_check_23 : decode b_M_check 23 = .ok (.istore 4, 2) := by decide +kernel
theorem d_M_check_25 : decode b_M_check 25 = .ok (.iload 4, 2) := by decide +kernel
theorem d_M_check_27 : decode b_M_check 27 = .ok (.ifCond .ge 8, 3) := by decide +kernel
theorem d_M_check_30 : decode b_M_check 30 = .ok (.bipush (-3), 2) := by decide +kernel
theorem d_M_check_32 : decode b_M_check 32 = .ok (.goto 24, 3) := by decide +kernel
theorem d_M_check_35 : decode b_M_check 35 = .ok (.iload_n 3, 1) := by decide +kernel
theorem d_M_check_36 : decode b_M_check 36 = .ok (.ifCond .lt 14, 3) := by decide +kernel
theorem d_M_check_39 : decode b_M_check 39 = .ok (.iload_n 3, 1) := by decide +kernel
theorem d_M_check_40 : decode b_M_check 40 = .ok (.aload_n 0, 1) := by decide +kernel
theorem d_M_check_41 : decode b_M_check 41 = .ok (.getfield 16, 3) := by decide +kernel
theorem d_M_check_44 : decode b_M_check 44 = .ok (.iload 4, 2) := by decide +kernel
theorem d_M_check_46 : decode b_M_check 46 = .ok (.iaload, 1) := by decide +kernel
theorem d_M_check_47 : decode b_M_check 47 = .ok (.if_icmp .lt 8, 3) := by decide +kernel
theorem d_M_check_50 : decode b_M_check 50 = .ok (.bipush (-4), 2) := by decide +kernel
theorem d_M_check_52 : decode b_M_check 52 = .ok (.goto 4, 3) := by decide +kernel
theorem d_M_check_55 : decode b_M_check 55 = .ok (.iconst 0, 1) := by decide +kernel
theorem d_M_check_56 : decode b_M_check 56 = .ok (.ireturn, 1) := by decide +kernel
theorem d_M_load_0 : decode b_M_load 0 = .ok (.aload_n 0, 1) := by decide +kernel
theorem d_M_load_1 : decode b_M_load 1 = .ok (.iload_n 1, 1) := by decide +kernel
theorem d_M_load_2 : decode b_M_load 2 = .ok (.iload_n 2, 1) := by decide +kernel
theorem d_M_load_3 : decode b_M_load 3 = .ok (.iload_n 3, 1) := by decide +kernel
theorem d_M_load_4 : decode b_M_load 4 = .ok (.invokevirtual 126, 3) := by decide +kernel
theorem d_M_load_7 : decode b_M_load 7 = .ok (.istore 4, 2) := by decide +kernel
theorem d_M_load_9 : decode b_M_load 9 = .ok (.iload 4, 2) := by decide +kernel
theorem d_M_load_11 : decode b_M_load 11 = .ok (.ifCond .ne 24, 3) := by decide +kernel
theorem d_M_load_14 : decode b_M_load 14 = .ok (.aload_n 0, 1) := by decide +kernel
theorem d_M_load_15 : decode b_M_load 15 = .ok (.getfield 35, 3) := by decide +kernel
theorem d_M_load_18 : decode b_M_load 18 = .ok (.iload_n 1, 1) := by decide +kernel
theorem d_M_load_19 : decode b_M_load 19 = .ok (.aload_n 0, 1) := by decide +kernel
theorem d_M_load_20 : decode b_M_load 20 = .ok (.getfield 19, 3) := by decide +kernel
theorem d_M_load_23 : decode b_M_load 23 = .ok (.iconst 3, 1) := by decide +kernel
theorem d_M_load_24 : decode b_M_load 24 = .ok (.aload_n 0, 1) := by decide +kernel
theorem d_M_load_25 : decode b_M_load 25 = .ok (.getfield 35, 3) := by decide +kernel
theorem d_M_load_28 : decode b_M_load 28 = .ok (.iload_n 2, 1) := by decide +kernel
theorem d_M_load_29 : decode b_M_load 29 = .ok (.iaload, 1) := by decide +kernel
theorem d_M_load_30 : decode b_M_load 30 = .ok (.imul, 1) := by decide +kernel
theorem d_M_load_31 : decode b_M_load 31 = .ok (.iload_n 3, 1) := by decide +kernel
theorem d_M_load_32 : decode b_M_load 32 = .ok (.iadd, 1) := by decide +kernel
theorem d_M_load_33 : decode b_M_load 33 = .ok (.iaload, 1) := by decide +kernel
theorem d_M_load_34 : decode b_M_load 34 = .ok (.iastore, 1) := by decide +kernel
theorem d_M_load_35 : decode b_M_load 35 = .ok (.iload 4, 2) := by decide +kernel
theorem d_M_load_37 : decode b_M_load 37 = .ok (.ireturn, 1) := by decide +kernel
theorem d_M_store_0 : decode b_M_store 0 = .ok (.aload_n 0, 1) := by decide +kernel
theorem d_M_store_1 : decode b_M_store 1 = .ok (.iload_n 3, 1) := by decide +kernel
theorem d_M_store_2 : decode b_M_store 2 = .ok (.iload_n 1, 1) := by decide +kernel
theorem d_M_store_3 : decode b_M_store 3 = .ok (.iload_n 2, 1) := by decide +kernel
theorem d_M_store_4 : decode b_M_store 4 = .ok (.invokevirtual 126, 3) := by decide +kernel
theorem d_M_store_7 : decode b_M_store 7 = .ok (.istore 4, 2) := by decide +kernel
theorem d_M_store_9 : decode b_M_store 9 = .ok (.iload 4, 2) := by decide +kernel
theorem d_M_store_11 : decode b_M_store 11 = .ok (.ifCond .ne 59, 3) := by decide +kernel
theorem d_M_store_14 : decode b_M_store 14 = .ok (.aload_n 0, 1) := by decide +kernel
theorem d_M_store_15 : decode b_M_store 15 = .ok (.getfield 35, 3) := by decide +kernel
theorem d_M_store_18 : decode b_M_store 18 = .ok (.iload_n 1, 1) := by decide +kernel
theorem d_M_store_19 : decode b_M_store 19 = .ok (.iaload, 1) := by decide +kernel
theorem d_M_store_20 : decode b_M_store 20 = .ok (.istore 5, 2) := by decide +kernel
theorem d_M_store_22 : decode b_M_store 22 = .ok (.aload_n 0, 1) := by decide +kernel
theorem d_M_store_23 : decode b_M_store 23 = .ok (.getfield 19, 3) := by decide +kernel
theorem d_M_store_26 : decode b_M_store 26 = .ok (.iconst 3, 1) := by decide +kernel
theorem d_M_store_27 : decode b_M_store 27 = .ok (.iload 5, 2) := by decide +kernel
theorem d_M_store_29 : decode b_M_store 29 = .ok (.imul, 1) := by decide +kernel
theorem d_M_store_30 : decode b_M_store 30 = .ok (.iload_n 2, 1) := by decide +kernel
theorem d_M_store_31 : decode b_M_store 31 = .ok (.iadd, 1) := by decide +kernel
theorem d_M_store_32 : decode b_M_store 32 = .ok (.aload_n 0, 1) := by decide +kernel
theorem d_M_store_33 : decode b_M_store 33 = .ok (.getfield 35, 3) := by decide +kernel
theorem d_M_store_36 : decode b_M_store 36 = .ok (.iload_n 3, 1) := by decide +kernel
theorem d_M_store_37 : decode b_M_store 37 = .ok (.iaload, 1) := by decide +kernel
theorem d_M_store_38 : decode b_M_store 38 = .ok (.iastore, 1) := by decide +kernel
theorem d_M_store_39 : decode b_M_store 39 = .ok (.aload_n 0, 1) := by decide +kernel
theorem d_M_store_40 : decode b_M_store 40 = .ok (.getfield 7, 3) := by decide +kernel
theorem d_M_store_43 : decode b_M_store 43 = .ok (.iload 5, 2) := by decide +kernel
theorem d_M_store_45 : decode b_M_store 45 = .ok (.iaload, 1) := by decide +kernel
theorem d_M_store_46 : decode b_M_store 46 = .ok (.iconst 2, 1) := by decide +kernel
theorem d_M_store_47 : decode b_M_store 47 = .ok (.if_icmp .ne 23, 3) := by decide +kernel
theorem d_M_store_50 : decode b_M_store 50 = .ok (.aload_n 0, 1) := by decide +kernel
theorem d_M_store_51 : decode b_M_store 51 = .ok (.getfield 38, 3) := by decide +kernel
theorem d_M_store_54 : decode b_M_store 54 = .ok (.aload_n 0, 1) := by decide +kernel
theorem d_M_store_55 : decode b_M_store 55 = .ok (.getfield 25, 3) := by decide +kernel
theorem d_M_store_58 : decode b_M_store 58 = .ok (.iload 5, 2) := by decide +kernel
theorem d_M_store_60 : decode b_M_store 60 = .ok (.iaload, 1) := by decide +kernel
theorem d_M_store_61 : decode b_M_store 61 = .ok (.iconst 1, 1) := by decide +kernel
theorem d_M_store_62 : decode b_M_store 62 = .ok (.iadd, 1) := by decide +kernel
theorem d_M_store_63 : decode b_M_store 63 = .ok (.iload_n 2, 1) := by decide +kernel
theorem d_M_store_64 : decode b_M_store 64 = .ok (.iadd, 1) := by decide +kernel
theorem d_M_store_65 : decode b_M_store 65 = .ok (.bipush 8, 2) := by decide +kernel
theorem d_M_store_67 : decode b_M_store 67 = .ok (.idiv, 1) := by decide +kernel
theorem d_M_store_68 : decode b_M_store 68 = .ok (.iconst 1, 1) := by decide +kernel
theorem d_M_store_69 : decode b_M_store 69 = .ok (.bastore, 1) := by decide +kernel
theorem d_M_store_70 : decode b_M_store 70 = .ok (.iload 4, 2) := by decide +kernel
theorem d_M_store_72 : decode b_M_store 72 = .ok (.ireturn, 1) := by decide +kernel
theorem d_M_payload_0 : decode b_M_payload 0 = .ok (.iload_n 1, 1) := by decide +kernel
theorem d_M_payload_1 : decode b_M_payload 1 = .ok (.invokestatic 119, 3) := by decide +kernel
theorem d_M_payload_4 : decode b_M_payload 4 = .ok (.ifCond .eq 12, 3) := by decide +kernel
theorem d_M_payload_7 : decode b_M_payload 7 = .ok (.aload_n 0, 1) := by decide +kernel
theorem d_M_payload_8 : decode b_M_payload 8 = .ok (.getfield 35, 3) := by decide +kernel
theorem d_M_payload_11 : decode b_M_payload 11 = .ok (.iload_n 1, 1) := by decide +kernel
theorem d_M_payload_12 : decode b_M_payload 12 = .ok (.iaload, 1) := by decide +kernel
theorem d_M_payload_13 : decode b_M_payload 13 = .ok (.ifCond .ge 7, 3) := by decide +kernel
theorem d_M_payload_16 : decode b_M_payload 16 = .ok (.iconst 0, 1) := by decide +kernel
theorem d_M_payload_17 : decode b_M_payload 17 = .ok (.goto 14, 3) := by decide +kernel
theorem d_M_payload_20 : decode b_M_payload 20 = .ok (.aload_n 0, 1) := by decide +kernel
theorem d_M_payload_21 : decode b_M_payload 21 = .ok (.getfield 13, 3) := by decide +kernel
theorem d_M_payload_24 : decode b_M_payload 24 = .ok (.aload_n 0, 1) := by decide +kernel
theorem d_M_payload_25 : decode b_M_payload 25 = .ok (.getfield 35, 3) := by decide +kernel
theorem d_M_payload_28 : decode b_M_payload 28 = .ok (.iload_n 1, 1) := by decide +kernel
theorem d_M_payload_29 : decode b_M_payload 29 = .ok (.iaload, 1) := by decide +kernel
theorem d_M_payload_30 : decode b_M_payload 30 = .ok (.iaload, 1) := by decide +kernel
theorem d_M_payload_31 : decode b_M_payload 31 = .ok (.ireturn, 1) := by decide +kernel
theorem d_M_same_0 : decode b_M_same 0 = .ok (.iload_n 1, 1) := by decide +kernel
theorem d_M_same_1 : decode b_M_same 1 = .ok (.invokestatic 119, 3) := by decide +kernel
theorem d_M_same_4 : decode b_M_same 4 = .ok (.ifCond .eq 29, 3) := by decide +kernel
theorem d_M_same_7 : decode b_M_same 7 = .ok (.iload_n 2, 1) := by decide +kernel
theorem d_M_same_8 : decode b_M_same 8 = .ok (.invokestatic 119, 3) := by decide +kernel
theorem d_M_same_11 : decode b_M_same 11 = .ok (.ifCond .eq 22, 3) := by decide +kernel
theorem d_M_same_14 : decode b_M_same 14 = .ok (.aload_n 0, 1) := by decide +kernel
theorem d_M_same_15 : decode b_M_same 15 = .ok (.getfield 35, 3) := by decide +kernel
theorem d_M_same_18 : decode b_M_same 18 = .ok (.iload_n 1, 1) := by decide +kernel
theorem d_M_same_19 : decode b_M_same 19 = .ok (.iaload, 1) := by decide +kernel
theorem d_M_same_20 : decode b_M_same 20 = .ok (.aload_n 0, 1) := by decide +kernel
theorem d_M_same_21 : decode b_M_same 21 = .ok (.getfield 35, 3) := by decide +kernel
theorem d_M_same_24 : decode b_M_same 24 = .ok (.iload_n 2, 1) := by decide +kernel
theorem d_M_same_25 : decode b_M_same 25 = .ok (.iaload, 1) := by decide +kernel
theorem d_M_same_26 : decode b_M_same 26 = .ok (.if_icmp .ne 7, 3) := by decide +kernel
theorem d_M_same_29 : decode b_M_same 29 = .ok (.iconst 1, 1) := by decide +kernel
theorem d_M_same_30 : decode b_M_same 30 = .ok (.goto 4, 3) := by decide +kernel
theorem d_M_same_33 : decode b_M_same 33 = .ok (.iconst 0, 1) := by decide +kernel
theorem d_M_same_34 : decode b_M_same 34 = .ok (.ireturn, 1) := by decide +kernel
theorem d_M_address_0 : decode b_M_address 0 = .ok (.iload_n 1, 1) := by decide +kernel
theorem d_M_address_1 : decode b_M_address 1 = .ok (.invokestatic 119, 3) := by decide +kernel
theorem d_M_address_4 : decode b_M_address 4 = .ok (.ifCond .ne 6, 3) := by decide +kernel
theorem d_M_address_7 : decode b_M_address 7 = .ok (.bipush (-2), 2) := by decide +kernel
theorem d_M_address_9 : decode b_M_address 9 = .ok (.ireturn, 1) := by decide +kernel
theorem d_M_address_10 : decode b_M_address 10 = .ok (.aload_n 0, 1) := by decide +kernel
theorem d_M_address_11 : decode b_M_address 11 = .ok (.getfield 35, 3) := by decide +kernel
theorem d_M_address_14 : decode b_M_address 14 = .ok (.iload_n 1, 1) := by decide +kernel
theorem d_M_address_15 : decode b_M_address 15 = .ok (.iaload, 1) := by decide +kernel
theorem d_M_address_16 : decode b_M_address 16 = .ok (.istore_n 2, 1) := by decide +kernel
theorem d_M_address_17 : decode b_M_address 17 = .ok (.iload_n 2, 1) := by decide +kernel
theorem d_M_address_18 : decode b_M_address 18 = .ok (.ifCond .ge 8, 3) := by decide +kernel
theorem d_M_address_21 : decode b_M_address 21 = .ok (.bipush (-3), 2) := by decide +kernel
theorem d_M_address_23 : decode b_M_address 23 = .ok (.goto 23, 3) := by decide +kernel
theorem d_M_address_26 : decode b_M_address 26 = .ok (.aload_n 0, 1) := by decide +kernel
theorem d_M_address_27 : decode b_M_address 27 = .ok (.getfield 7, 3) := by decide +kernel
theorem d_M_address_30 : decode b_M_address 30 = .ok (.iload_n 2, 1) := by decide +kernel
theorem d_M_address_31 : decode b_M_address 31 = .ok (.iaload, 1) := by decide +kernel
theorem d_M_address_32 : decode b_M_address 32 = .ok (.iconst 2, 1) := by decide +kernel
theorem d_M_address_33 : decode b_M_address 33 = .ok (.if_icmp .ne 12, 3) := by decide +kernel
theorem d_M_address_36 : decode b_M_address 36 = .ok (.aload_n 0, 1) := by decide +kernel
theorem d_M_address_37 : decode b_M_address 37 = .ok (.getfield 25, 3) := by decide +kernel
theorem d_M_address_40 : decode b_M_address 40 = .ok (.iload_n 2, 1) := by decide +kernel
theorem d_M_address_41 : decode b_M_address 41 = .ok (.iaload, 1) := by decide +kernel
theorem d_M_address_42 : decode b_M_address 42 = .ok (.goto 4, 3) := by decide +kernel
theorem d_M_address_45 : decode b_M_address 45 = .ok (.iconst (-1), 1) := by decide +kernel
theorem d_M_address_46 : decode b_M_address 46 = .ok (.ireturn, 1) := by decide +kernel
theorem d_M_age_0 : decode b_M_age 0 = .ok (.iload_n 1, 1) := by decide +kernel
theorem d_M_age_1 : decode b_M_age 1 = .ok (.invokestatic 119, 3) := by decide +kernel
theorem d_M_age_4 : decode b_M_age 4 = .ok (.ifCond .ne 6, 3) := by decide +kernel
theorem d_M_age_7 : decode b_M_age 7 = .ok (.bipush (-2), 2) := by decide +kernel
theorem d_M_age_9 : decode b_M_age 9 = .ok (.ireturn, 1) := by decide +kernel
theorem d_M_age_10 : decode b_M_age 10 = .ok (.aload_n 0, 1) := by decide +kernel
theorem d_M_age_11 : decode b_M_age 11 = .ok (.getfield 35, 3) := by decide +kernel
theorem d_M_age_14 : decode b_M_age 14 = .ok (.iload_n 1, 1) := by decide +kernel
theorem d_M_age_15 : decode b_M_age 15 = .ok (.iaload, 1) := by decide +kernel
theorem d_M_age_16 : decode b_M_age 16 = .ok (.istore_n 2, 1) := by decide +kernel
theorem d_M_age_17 : decode b_M_age 17 = .ok (.iload_n 2, 1) := by decide +kernel
theorem d_M_age_18 : decode b_M_age 18 = .ok (.ifCond .ge 8, 3) := by decide +kernel
theorem d_M_age_21 : decode b_M_age 21 = .ok (.bipush (-3), 2) := by decide +kernel
theorem d_M_age_23 : decode b_M_age 23 = .ok (.goto 23, 3) := by decide +kernel
theorem d_M_age_26 : decode b_M_age 26 = .ok (.aload_n 0, 1) := by decide +kernel
theorem d_M_age_27 : decode b_M_age 27 = .ok (.getfield 7, 3) := by decide +kernel
theorem d_M_age_30 : decode b_M_age 30 = .ok (.iload_n 2, 1) := by decide +kernel
theorem d_M_age_31 : decode b_M_age 31 = .ok (.iaload, 1) := by decide +kernel
theorem d_M_age_32 : decode b_M_age 32 = .ok (.iconst 1, 1) := by decide +kernel
theorem d_M_age_33 : decode b_M_age 33 = .ok (.if_icmp .ne 12, 3) := by decide +kernel
theorem d_M_age_36 : decode b_M_age 36 = .ok (.aload_n 0, 1) := by decide +kernel
theorem d_M_age_37 : decode b_M_age 37 = .ok (.getfield 22, 3) := by decide +kernel
theorem d_M_age_40 : decode b_M_age 40 = .ok (.iload_n 2, 1) := by decide +kernel
theorem d_M_age_41 : decode b_M_age 41 = .ok (.iaload, 1) := by decide +kernel
theorem d_M_age_42 : decode b_M_age 42 = .ok (.goto 4, 3) := by decide +kernel
theorem d_M_age_45 : decode b_M_age 45 = .ok (.iconst (-1), 1) := by decide +kernel
theorem d_M_age_46 : decode b_M_age 46 = .ok (.ireturn, 1) := by decide +kernel
theorem d_M_shade_0 : decode b_M_shade 0 = .ok (.iload_n 1, 1) := by decide +kernel
theorem d_M_shade_1 : decode b_M_shade 1 = .ok (.ifCond .lt 22, 3) := by decide +kernel
theorem d_M_shade_4 : decode b_M_shade 4 = .ok (.aload_n 0, 1) := by decide +kernel
theorem d_M_shade_5 : decode b_M_shade 5 = .ok (.getfield 7, 3) := by decide +kernel
theorem d_M_shade_8 : decode b_M_shade 8 = .ok (.iload_n 1, 1) := by decide +kernel
theorem d_M_shade_9 : decode b_M_shade 9 = .ok (.iaload, 1) := by decide +kernel
theorem d_M_shade_10 : decode b_M_shade 10 = .ok (.iconst 2, 1) := by decide +kernel
theorem d_M_shade_11 : decode b_M_shade 11 = .ok (.if_icmp .ne 12, 3) := by decide +kernel
theorem d_M_shade_14 : decode b_M_shade 14 = .ok (.aload_n 0, 1) := by decide +kernel
theorem d_M_shade_15 : decode b_M_shade 15 = .ok (.getfield 28, 3) := by decide +kernel
theorem d_M_shade_18 : decode b_M_shade 18 = .ok (.iload_n 1, 1) := by decide +kernel
theorem d_M_shade_19 : decode b_M_shade 19 = .ok (.baload, 1) := by decide +kernel
theorem d_M_shade_20 : decode b_M_shade 20 = .ok (.ifCond .eq 5, 3) := by decide +kernel
theorem d_M_shade_23 : decode b_M_shade 23 = .ok (.iconst 0, 1) := by decide +kernel
theorem d_M_shade_24 : decode b_M_shade 24 = .ok (.ireturn, 1) := by decide +kernel
theorem d_M_shade_25 : decode b_M_shade 25 = .ok (.aload_n 0, 1) := by decide +kernel
theorem d_M_shade_26 : decode b_M_shade 26 = .ok (.getfield 28, 3) := by decide +kernel
theorem d_M_shade_29 : decode b_M_shade 29 = .ok (.iload_n 1, 1) := by decide +kernel
theorem d_M_shade_30 : decode b_M_shade 30 = .ok (.iconst 1, 1) := by decide +kernel
theorem d_M_shade_31 : decode b_M_shade 31 = .ok (.bastore, 1) := by decide +kernel
theorem d_M_shade_32 : decode b_M_shade 32 = .ok (.aload_n 0, 1) := by decide +kernel
theorem d_M_shade_33 : decode b_M_shade 33 = .ok (.getfield 32, 3) := by decide +kernel
theorem d_M_shade_36 : decode b_M_shade 36 = .ok (.iload_n 1, 1) := by decide +kernel
theorem d_M_shade_37 : decode b_M_shade 37 = .ok (.iconst 1, 1) := by decide +kernel
theorem d_M_shade_38 : decode b_M_shade 38 = .ok (.bastore, 1) := by decide +kernel
theorem d_M_shade_39 : decode b_M_shade 39 = .ok (.iconst 1, 1) := by decide +kernel
theorem d_M_shade_40 : decode b_M_shade 40 = .ok (.ireturn, 1) := by decide +kernel
theorem d_M_scan_0 : decode b_M_scan 0 = .ok (.iconst 0, 1) := by decide +kernel
theorem d_M_scan_1 : decode b_M_scan 1 = .ok (.istore_n 2, 1) := by decide +kernel
theorem d_M_scan_2 : decode b_M_scan 2 = .ok (.aload_n 0, 1) := by decide +kernel
theorem d_M_scan_3 : decode b_M_scan 3 = .ok (.getfield 32, 3) := by decide +kernel
theorem d_M_scan_6 : decode b_M_scan 6 = .ok (.iload_n 1, 1) := by decide +kernel
theorem d_M_scan_7 : decode b_M_scan 7 = .ok (.iconst 0, 1) := by decide +kernel
theorem d_M_scan_8 : decode b_M_scan 8 = .ok (.bastore, 1) := by decide +kernel
theorem d_M_scan_9 : decode b_M_scan 9 = .ok (.iconst 0, 1) := by decide +kernel
theorem d_M_scan_10 : decode b_M_scan 10 = .ok (.istore_n 3, 1) := by decide +kernel
theorem d_M_scan_11 : decode b_M_scan 11 = .ok (.iload_n 3, 1) := by decide +kernel
theorem d_M_scan_12 : decode b_M_scan 12 = .ok (.aload_n 0, 1) := by decide +kernel
theorem d_M_scan_13 : decode b_M_scan 13 = .ok (.getfield 16, 3) := by decide +kernel
theorem d_M_scan_16 : decode b_M_scan 16 = .ok (.iload_n 1, 1) := by decide +kernel
theorem d_M_scan_17 : decode b_M_scan 17 = .ok (.iaload, 1) := by decide +kernel
theorem d_M_scan_18 : decode b_M_scan 18 = .ok (.if_icmp .ge 26, 3) := by decide +kernel
theorem d_M_scan_21 : decode b_M_scan 21 = .ok (.iload_n 2, 1) := by decide +kernel
theorem d_M_scan_22 : decode b_M_scan 22 = .ok (.aload_n 0, 1) := by decide +kernel
theorem d_M_scan_23 : decode b_M_scan 23 = .ok (.aload_n 0, 1) := by decide +kernel
theorem d_M_scan_24 : decode b_M_scan 24 = .ok (.getfield 19, 3) := by decide +kernel
theorem d_M_scan_27 : decode b_M_scan 27 = .ok (.iconst 3, 1) := by decide +kernel
theorem d_M_scan_28 : decode b_M_scan 28 = .ok (.iload_n 1, 1) := by decide +kernel
theorem d_M_scan_29 : decode b_M_scan 29 = .ok (.imul, 1) := by decide +kernel
theorem d_M_scan_30 : decode b_M_scan 30 = .ok (.iload_n 3, 1) := by decide +kernel
theorem d_M_scan_31 : decode b_M_scan 31 = .ok (.iadd, 1) := by decide +kernel
theorem d_M_scan_32 : decode b_M_scan 32 = .ok (.iaload, 1) := by decide +kernel
theorem d_M_scan_33 : decode b_M_scan 33 = .ok (.invokevirtual 130, 3) := by decide +kernel
theorem d_M_scan_36 : decode b_M_scan 36 = .ok (.iadd, 1) := by decide +kernel
theorem d_M_scan_37 : decode b_M_scan 37 = .ok (.istore_n 2, 1) := by decide +kernel
theorem d_M_scan_38 : decode b_M_scan 38 = .ok (.iinc 3 1, 3) := by decide +kernel
theorem d_M_scan_41 : decode b_M_scan 41 = .ok (.goto (-30), 3) := by decide +kernel
theorem d_M_scan_44 : decode b_M_scan 44 = .ok (.iload_n 2, 1) := by decide +kernel
theorem d_M_scan_45 : decode b_M_scan 45 = .ok (.ireturn, 1) := by decide +kernel
theorem d_M_next_0 : decode b_M_next 0 = .ok (.iconst (-1), 1) := by decide +kernel
theorem d_M_next_1 : decode b_M_next 1 = .ok (.istore_n 3, 1) := by decide +kernel
theorem d_M_next_2 : decode b_M_next 2 = .ok (.iconst 0, 1) := by decide +kernel
theorem d_M_next_3 : decode b_M_next 3 = .ok (.istore 4, 2) := by decide +kernel
theorem d_M_next_5 : decode b_M_next 5 = .ok (.iload 4, 2) := by decide +kernel
theorem d_M_next_7 : decode b_M_next 7 = .ok (.bipush 90, 2) := by decide +kernel
theorem d_M_next_9 : decode b_M_next 9 = .ok (.if_icmp .ge 68, 3) := by decide +kernel
theorem d_M_next_12 : decode b_M_next 12 = .ok (.aload_n 0, 1) := by decide +kernel
theorem d_M_next_13 : decode b_M_next 13 = .ok (.getfield 7, 3) := by decide +kernel
theorem d_M_next_16 : decode b_M_next 16 = .ok (.iload 4, 2) := by decide +kernel
theorem d_M_next_18 : decode b_M_next 18 = .ok (.iaload, 1) := by decide +kernel
theorem d_M_next_19 : decode b_M_next 19 = .ok (.iconst 2, 1) := by decide +kernel
theorem d_M_next_20 : decode b_M_next 20 = .ok (.if_icmp .ne 51, 3) := by decide +kernel
theorem d_M_next_23 : decode b_M_next 23 = .ok (.aload_n 0, 1) := by decide +kernel
theorem d_M_next_24 : decode b_M_next 24 = .ok (.getfield 25, 3) := by decide +kernel
theorem d_M_next_27 : decode b_M_next 27 = .ok (.iload 4, 2) := by decide +kernel
theorem d_M_next_29 : decode b_M_next 29 = .ok (.iaload, 1) := by decide +kernel
theorem d_M_next_30 : decode b_M_next 30 = .ok (.iload_n 1, 1) := by decide +kernel
theorem d_M_next_31 : decode b_M_next 31 = .ok (.if_icmp .lt 40, 3) := by decide +kernel
theorem d_M_next_34 : decode b_M_next 34 = .ok (.aload_n 0, 1) := by decide +kernel
theorem d_M_next_35 : decode b_M_next 35 = .ok (.getfield 32, 3) := by decide +kernel
theorem d_M_next_38 : decode b_M_next 38 = .ok (.iload 4, 2) := by decide +kernel
theorem d_M_next_40 : decode b_M_next 40 = .ok (.baload, 1) := by decide +kernel
theorem d_M_next_41 : decode b_M_next 41 = .ok (.ifCond .ne 7, 3) := by decide +kernel
theorem d_M_next_44 : decode b_M_next 44 = .ok (.iload_n 2, 1) := by decide +kernel
theorem d_M_next_45 : decode b_M_next 45 = .ok (.ifCond .ne 26, 3) := by decide +kernel
theorem d_M_next_48 : decode b_M_next 48 = .ok (.iload_n 3, 1) := by decide +kernel
theorem d_M_next_49 : decode b_M_next 49 = .ok (.ifCond .lt 19, 3) := by decide +kernel
theorem d_M_next_52 : decode b_M_next 52 = .ok (.aload_n 0, 1) := by decide +kernel
theorem d_M_next_53 : decode b_M_next 53 = .ok (.getfield 25, 3) := by decide +kernel
theorem d_M_next_56 : decode b_M_next 56 = .ok (.iload 4, 2) := by decide +kernel
theorem d_M_next_58 : decode b_M_next 58 = .ok (.iaload, 1) := by decide +kernel
theorem d_M_next_59 : decode b_M_next 59 = .ok (.aload_n 0, 1) := by decide +kernel
theorem d_M_next_60 : decode b_M_next 60 = .ok (.getfield 25, 3) := by decide +kernel
theorem d_M_next_63 : decode b_M_next 63 = .ok (.iload_n 3, 1) := by decide +kernel
theorem d_M_next_64 : decode b_M_next 64 = .ok (.iaload, 1) := by decide +kernel
theorem d_M_next_65 : decode b_M_next 65 = .ok (.if_icmp .ge 6, 3) := by decide +kernel
theorem d_M_next_68 : decode b_M_next 68 = .ok (.iload 4, 2) := by decide +kernel
theorem d_M_next_70 : decode b_M_next 70 = .ok (.istore_n 3, 1) := by decide +kernel
theorem d_M_next_71 : decode b_M_next 71 = .ok (.iinc 4 1, 3) := by decide +kernel
theorem d_M_next_74 : decode b_M_next 74 = .ok (.goto (-69), 3) := by decide +kernel
theorem d_M_next_77 : decode b_M_next 77 = .ok (.iload_n 3, 1) := by decide +kernel
theorem d_M_next_78 : decode b_M_next 78 = .ok (.ireturn, 1) := by decide +kernel
theorem d_M_regrey_0 : decode b_M_regrey 0 = .ok (.iconst 0, 1) := by decide +kernel
theorem d_M_regrey_1 : decode b_M_regrey 1 = .ok (.istore_n 2, 1) := by decide +kernel
theorem d_M_regrey_2 : decode b_M_regrey 2 = .ok (.iload_n 2, 1) := by decide +kernel
theorem d_M_regrey_3 : decode b_M_regrey 3 = .ok (.bipush 90, 2) := by decide +kernel
theorem d_M_regrey_5 : decode b_M_regrey 5 = .ok (.if_icmp .ge 47, 3) := by decide +kernel
theorem d_M_regrey_8 : decode b_M_regrey 8 = .ok (.aload_n 0, 1) := by decide +kernel
theorem d_M_regrey_9 : decode b_M_regrey 9 = .ok (.getfield 32, 3) := by decide +kernel
theorem d_M_regrey_12 : decode b_M_regrey 12 = .ok (.iload_n 2, 1) := by decide +kernel
theorem d_M_regrey_13 : decode b_M_regrey 13 = .ok (.aload_n 0, 1) := by decide +kernel
theorem d_M_regrey_14 : decode b_M_regrey 14 = .ok (.getfield 32, 3) := by decide +kernel
theorem d_M_regrey_17 : decode b_M_regrey 17 = .ok (.iload_n 2, 1) := by decide +kernel
theorem d_M_regrey_18 : decode b_M_regrey 18 = .ok (.baload, 1) := by decide +kernel
theorem d_M_regrey_19 : decode b_M_regrey 19 = .ok (.ifCond .ne 21, 3) := by decide +kernel
theorem d_M_regrey_22 : decode b_M_regrey 22 = .ok (.aload_n 0, 1) := by decide +kernel
theorem d_M_regrey_23 : decode b_M_regrey 23 = .ok (.getfield 28, 3) := by decide +kernel
theorem d_M_regrey_26 : decode b_M_regrey 26 = .ok (.iload_n 2, 1) := by decide +kernel
theorem d_M_regrey_27 : decode b_M_regrey 27 = .ok (.baload, 1) := by decide +kernel
theorem d_M_regrey_28 : decode b_M_regrey 28 = .ok (.ifCond .eq 16, 3) := by decide +kernel
theorem d_M_regrey_31 : decode b_M_regrey 31 = .ok (.aload_n 0, 1) := by decide +kernel
theorem d_M_regrey_32 : decode b_M_regrey 32 = .ok (.iload_n 2, 1) := by decide +kernel
theorem d_M_regrey_33 : decode b_M_regrey 33 = .ok (.iload_n 1, 1) := by decide +kernel
theorem d_M_regrey_34 : decode b_M_regrey 34 = .ok (.invokevirtual 84, 3) := by decide +kernel
theorem d_M_regrey_37 : decode b_M_regrey 37 = .ok (.ifCond .eq 7, 3) := by decide +kernel
theorem d_M_regrey_40 : decode b_M_regrey 40 = .ok (.iconst 1, 1) := by decide +kernel
theorem d_M_regrey_41 : decode b_M_regrey 41 = .ok (.goto 4, 3) := by decide +kernel
theorem d_M_regrey_44 : decode b_M_regrey 44 = .ok (.iconst 0, 1) := by decide +kernel
theorem d_M_regrey_45 : decode b_M_regrey 45 = .ok (.bastore, 1) := by decide +kernel
theorem d_M_regrey_46 : decode b_M_regrey 46 = .ok (.iinc 2 1, 3) := by decide +kernel
theorem d_M_regrey_49 : decode b_M_regrey 49 = .ok (.goto (-47), 3) := by decide +kernel
theorem d_M_regrey_52 : decode b_M_regrey 52 = .ok (.return_, 1) := by decide +kernel
theorem d_M_begin_0 : decode b_M_begin 0 = .ok (.aload_n 0, 1) := by decide +kernel
theorem d_M_begin_1 : decode b_M_begin 1 = .ok (.getfield 81, 3) := by decide +kernel
theorem d_M_begin_4 : decode b_M_begin 4 = .ok (.ifCond .eq 6, 3) := by decide +kernel
theorem d_M_begin_7 : decode b_M_begin 7 = .ok (.bipush (-6), 2) := by decide +kernel
theorem d_M_begin_9 : decode b_M_begin 9 = .ok (.ireturn, 1) := by decide +kernel
theorem d_M_begin_10 : decode b_M_begin 10 = .ok (.aload_n 0, 1) := by decide +kernel
theorem d_M_begin_11 : decode b_M_begin 11 = .ok (.iconst 1, 1) := by decide +kernel
theorem d_M_begin_12 : decode b_M_begin 12 = .ok (.putfield 81, 3) := by decide +kernel
theorem d_M_begin_15 : decode b_M_begin 15 = .ok (.iconst 0, 1) := by decide +kernel
theorem d_M_begin_16 : decode b_M_begin 16 = .ok (.istore_n 1, 1) := by decide +kernel
theorem d_M_begin_17 : decode b_M_begin 17 = .ok (.iconst 0, 1) := by decide +kernel
theorem d_M_begin_18 : decode b_M_begin 18 = .ok (.istore_n 2, 1) := by decide +kernel
theorem d_M_begin_19 : decode b_M_begin 19 = .ok (.iload_n 2, 1) := by decide +kernel
theorem d_M_begin_20 : decode b_M_begin 20 = .ok (.bipush 6, 2) := by decide +kernel
theorem d_M_begin_22 : decode b_M_begin 22 = .ok (.if_icmp .ge 22, 3) := by decide +kernel
theorem d_M_begin_25 : decode b_M_begin 25 = .ok (.iload_n 1, 1) := by decide +kernel
theorem d_M_begin_26 : decode b_M_begin 26 = .ok (.aload_n 0, 1) := by decide +kernel
theorem d_M_begin_27 : decode b_M_begin 27 = .ok (.aload_n 0, 1) := by decide +kernel
theorem d_M_begin_28 : decode b_M_begin 28 = .ok (.getfield 35, 3) := by decide +kernel
theorem d_M_begin_31 : decode b_M_begin 31 = .ok (.iload_n 2, 1) := by decide +kernel
theorem d_M_begin_32 : decode b_M_begin 32 = .ok (.iaload, 1) := by decide +kernel
theorem d_M_begin_33 : decode b_M_begin 33 = .ok (.invokevirtual 130, 3) := by decide +kernel
theorem d_M_begin_36 : decode b_M_begin 36 = .ok (.iadd, 1) := by decide +kernel
theorem d_M_begin_37 : decode b_M_begin 37 = .ok (.istore_n 1, 1) := by decide +kernel
theorem d_M_begin_38 : decode b_M_begin 38 = .ok (.iinc 2 1, 3) := by decide +kernel
theorem d_M_begin_41 : decode b_M_begin 41 = .ok (.goto (-22), 3) := by decide +kernel
theorem d_M_begin_44 : decode b_M_begin 44 = .ok (.iconst 0, 1) := by decide +kernel
theorem d_M_begin_45 : decode b_M_begin 45 = .ok (.istore_n 2, 1) := by decide +kernel
theorem d_M_begin_46 : decode b_M_begin 46 = .ok (.iload_n 2, 1) := by decide +kernel
theorem d_M_begin_47 : decode b_M_begin 47 = .ok (.bipush 8, 2) := by decide +kernel
theorem d_M_begin_49 : decode b_M_begin 49 = .ok (.if_icmp .ge 16, 3) := by decide +kernel
theorem d_M_begin_52 : decode b_M_begin 52 = .ok (.aload_n 0, 1) := by decide +kernel
theorem d_M_begin_53 : decode b_M_begin 53 = .ok (.getfield 41, 3) := by decide +kernel
theorem d_M_begin_56 : decode b_M_begin 56 = .ok (.iload_n 2, 1) := by decide +kernel
theorem d_M_begin_57 : decode b_M_begin 57 = .ok (.iconst 0, 1) := by decide +kernel
theorem d_M_begin_58 : decode b_M_begin 58 = .ok (.bastore, 1) := by decide +kernel
theorem d_M_begin_59 : decode b_M_begin 59 = .ok (.iinc 2 1, 3) := by decide +kernel
theorem d_M_begin_62 : decode b_M_begin 62 = .ok (.goto (-16), 3) := by decide +kernel
theorem d_M_begin_65 : decode b_M_begin 65 = .ok (.iload_n 1, 1) := by decide +kernel
theorem d_M_begin_66 : decode b_M_begin 66 = .ok (.ireturn, 1) := by decide +kernel
theorem d_M_mark_0 : decode b_M_mark 0 = .ok (.aload_n 0, 1) := by decide +kernel
theorem d_M_mark_1 : decode b_M_mark 1 = .ok (.getfield 81, 3) := by decide +kernel
theorem d_M_mark_4 : decode b_M_mark 4 = .ok (.iconst 1, 1) := by decide +kernel
theorem d_M_mark_5 : decode b_M_mark 5 = .ok (.if_icmp .eq 6, 3) := by decide +kernel
theorem d_M_mark_8 : decode b_M_mark 8 = .ok (.bipush (-6), 2) := by decide +kernel
theorem d_M_mark_10 : decode b_M_mark 10 = .ok (.ireturn, 1) := by decide +kernel
theorem d_M_mark_11 : decode b_M_mark 11 = .ok (.aload_n 0, 1) := by decide +kernel
theorem d_M_mark_12 : decode b_M_mark 12 = .ok (.iconst 0, 1) := by decide +kernel
theorem d_M_mark_13 : decode b_M_mark 13 = .ok (.iconst 1, 1) := by decide +kernel
theorem d_M_mark_14 : decode b_M_mark 14 = .ok (.invokevirtual 133, 3) := by decide +kernel
theorem d_M_mark_17 : decode b_M_mark 17 = .ok (.istore_n 1, 1) := by decide +kernel
theorem d_M_mark_18 : decode b_M_mark 18 = .ok (.iload_n 1, 1) := by decide +kernel
theorem d_M_mark_19 : decode b_M_mark 19 = .ok (.ifCond .ge 5, 3) := by decide +kernel
theorem d_M_mark_22 : decode b_M_mark 22 = .ok (.iconst (-1), 1) := by decide +kernel
theorem d_M_mark_23 : decode b_M_mark 23 = .ok (.ireturn, 1) := by decide +kernel
theorem d_M_mark_24 : decode b_M_mark 24 = .ok (.aload_n 0, 1) := by decide +kernel
theorem d_M_mark_25 : decode b_M_mark 25 = .ok (.iload_n 1, 1) := by decide +kernel
theorem d_M_mark_26 : decode b_M_mark 26 = .ok (.invokevirtual 137, 3) := by decide +kernel
theorem d_M_mark_29 : decode b_M_mark 29 = .ok (.pop, 1) := by decide +kernel
theorem d_M_mark_30 : decode b_M_mark 30 = .ok (.aload_n 0, 1) := by decide +kernel
theorem d_M_mark_31 : decode b_M_mark 31 = .ok (.getfield 25, 3) := by decide +kernel
theorem d_M_mark_34 : decode b_M_mark 34 = .ok (.iload_n 1, 1) := by decide +kernel
theorem d_M_mark_35 : decode b_M_mark 35 = .ok (.iaload, 1) := by decide +kernel
theorem d_M_mark_36 : decode b_M_mark 36 = .ok (.ireturn, 1) := by decide +kernel
theorem d_M_preclean_0 : decode b_M_preclean 0 = .ok (.aload_n 0, 1) := by decide +kernel
theorem d_M_preclean_1 : decode b_M_preclean 1 = .ok (.getfield 81, 3) := by decide +kernel
theorem d_M_preclean_4 : decode b_M_preclean 4 = .ok (.iconst 1, 1) := by decide +kernel
theorem d_M_preclean_5 : decode b_M_preclean 5 = .ok (.if_icmp .eq 6, 3) := by decide +kernel
theorem d_M_preclean_8 : decode b_M_preclean 8 = .ok (.bipush (-6), 2) := by decide +kernel
theorem d_M_preclean_10 : decode b_M_preclean 10 = .ok (.ireturn, 1) := by decide +kernel
theorem d_M_preclean_11 : decode b_M_preclean 11 = .ok (.iconst 0, 1) := by decide +kernel
theorem d_M_preclean_12 : decode b_M_preclean 12 = .ok (.istore_n 1, 1) := by decide +kernel
theorem d_M_preclean_13 : decode b_M_preclean 13 = .ok (.iload_n 1, 1) := by decide +kernel
theorem d_M_preclean_14 : decode b_M_preclean 14 = .ok (.bipush 8, 2) := by decide +kernel
theorem d_M_preclean_16 : decode b_M_preclean 16 = .ok (.if_icmp .ge 18, 3) := by decide +kernel
theorem d_M_preclean_19 : decode b_M_preclean 19 = .ok (.aload_n 0, 1) := by decide +kernel
theorem d_M_preclean_20 : decode b_M_preclean 20 = .ok (.getfield 41, 3) := by decide +kernel
theorem d_M_preclean_23 : decode b_M_preclean 23 = .ok (.iload_n 1, 1) := by decide +kernel
theorem d_M_preclean_24 : decode b_M_preclean 24 = .ok (.baload, 1) := by decide +kernel
theorem d_M_preclean_25 : decode b_M_preclean 25 = .ok (.ifCond .ne 9, 3) := by decide +kernel
theorem d_M_preclean_28 : decode b_M_preclean 28 = .ok (.iinc 1 1, 3) := by decide +kernel
theorem d_M_preclean_31 : decode b_M_preclean 31 = .ok (.goto (-18), 3) := by decide +kernel
theorem d_M_preclean_34 : decode b_M_preclean 34 = .ok (.iload_n 1, 1) := by decide +kernel
theorem d_M_preclean_35 : decode b_M_preclean 35 = .ok (.bipush 8, 2) := by decide +kernel
theorem d_M_preclean_37 : decode b_M_preclean 37 = .ok (.if_icmp .ne 5, 3) := by decide +kernel
theorem d_M_preclean_40 : decode b_M_preclean 40 = .ok (.iconst (-1), 1) := by decide +kernel
theorem d_M_preclean_41 : decode b_M_preclean 41 = .ok (.ireturn, 1) := by decide +kernel
theorem d_M_preclean_42 : decode b_M_preclean 42 = .ok (.aload_n 0, 1) := by decide +kernel
theorem d_M_preclean_43 : decode b_M_preclean 43 = .ok (.getfield 41, 3) := by decide +kernel
theorem d_M_preclean_46 : decode b_M_preclean 46 = .ok (.iload_n 1, 1) := by decide +kernel
theorem d_M_preclean_47 : decode b_M_preclean 47 = .ok (.iconst 0, 1) := by decide +kernel
theorem d_M_preclean_48 : decode b_M_preclean 48 = .ok (.bastore, 1) := by decide +kernel
theorem d_M_preclean_49 : decode b_M_preclean 49 = .ok (.aload_n 0, 1) := by decide +kernel
theorem d_M_preclean_50 : decode b_M_preclean 50 = .ok (.iload_n 1, 1) := by decide +kernel
theorem d_M_preclean_51 : decode b_M_preclean 51 = .ok (.invokevirtual 140, 3) := by decide +kernel
theorem d_M_preclean_54 : decode b_M_preclean 54 = .ok (.iload_n 1, 1) := by decide +kernel
theorem d_M_preclean_55 : decode b_M_preclean 55 = .ok (.ireturn, 1) := by decide +kernel
theorem d_M_remark_0 : decode b_M_remark 0 = .ok (.aload_n 0, 1) := by decide +kernel
theorem d_M_remark_1 : decode b_M_remark 1 = .ok (.getfield 81, 3) := by decide +kernel
theorem d_M_remark_4 : decode b_M_remark 4 = .ok (.iconst 1, 1) := by decide +kernel
theorem d_M_remark_5 : decode b_M_remark 5 = .ok (.if_icmp .eq 6, 3) := by decide +kernel
theorem d_M_remark_8 : decode b_M_remark 8 = .ok (.bipush (-6), 2) := by decide +kernel
theorem d_M_remark_10 : decode b_M_remark 10 = .ok (.ireturn, 1) := by decide +kernel
theorem d_M_remark_11 : decode b_M_remark 11 = .ok (.iconst 0, 1) := by decide +kernel
theorem d_M_remark_12 : decode b_M_remark 12 = .ok (.istore_n 1, 1) := by decide +kernel
theorem d_M_remark_13 : decode b_M_remark 13 = .ok (.iload_n 1, 1) := by decide +kernel
theorem d_M_remark_14 : decode b_M_remark 14 = .ok (.bipush 8, 2) := by decide +kernel
theorem d_M_remark_16 : decode b_M_remark 16 = .ok (.if_icmp .ge 39, 3) := by decide +kernel
theorem d_M_remark_19 : decode b_M_remark 19 = .ok (.aload_n 0, 1) := by decide +kernel
theorem d_M_remark_20 : decode b_M_remark 20 = .ok (.getfield 38, 3) := by decide +kernel
theorem d_M_remark_23 : decode b_M_remark 23 = .ok (.iload_n 1, 1) := by decide +kernel
theorem d_M_remark_24 : decode b_M_remark 24 = .ok (.baload, 1) := by decide +kernel
theorem d_M_remark_25 : decode b_M_remark 25 = .ok (.ifCond .ne 12, 3) := by decide +kernel
theorem d_M_remark_28 : decode b_M_remark 28 = .ok (.aload_n 0, 1) := by decide +kernel
theorem d_M_remark_29 : decode b_M_remark 29 = .ok (.getfield 41, 3) := by decide +kernel
theorem d_M_remark_32 : decode b_M_remark 32 = .ok (.iload_n 1, 1) := by decide +kernel
theorem d_M_remark_33 : decode b_M_remark 33 = .ok (.baload, 1) := by decide +kernel
theorem d_M_remark_34 : decode b_M_remark 34 = .ok (.ifCond .eq 8, 3) := by decide +kernel
theorem d_M_remark_37 : decode b_M_remark 37 = .ok (.aload_n 0, 1) := by decide +kernel
theorem d_M_remark_38 : decode b_M_remark 38 = .ok (.iload_n 1, 1) := by decide +kernel
theorem d_M_remark_39 : decode b_M_remark 39 = .ok (.invokevirtual 140, 3) := by decide +kernel
theorem d_M_remark_42 : decode b_M_remark 42 = .ok (.aload_n 0, 1) := by decide +kernel
theorem d_M_remark_43 : decode b_M_remark 43 = .ok (.getfield 41, 3) := by decide +kernel
theorem d_M_remark_46 : decode b_M_remark 46 = .ok (.iload_n 1, 1) := by decide +kernel
theorem d_M_remark_47 : decode b_M_remark 47 = .ok (.iconst 0, 1) := by decide +kernel
theorem d_M_remark_48 : decode b_M_remark 48 = .ok (.bastore, 1) := by decide +kernel
theorem d_M_remark_49 : decode b_M_remark 49 = .ok (.iinc 1 1, 3) := by decide +kernel
theorem d_M_remark_52 : decode b_M_remark 52 = .ok (.goto (-39), 3) := by decide +kernel
theorem d_M_remark_55 : decode b_M_remark 55 = .ok (.iconst 0, 1) := by decide +kernel
theorem d_M_remark_56 : decode b_M_remark 56 = .ok (.istore_n 1, 1) := by decide +kernel
theorem d_M_remark_57 : decode b_M_remark 57 = .ok (.iconst 0, 1) := by decide +kernel
theorem d_M_remark_58 : decode b_M_remark 58 = .ok (.istore_n 2, 1) := by decide +kernel
theorem d_M_remark_59 : decode b_M_remark 59 = .ok (.iload_n 2, 1) := by decide +kernel
theorem d_M_remark_60 : decode b_M_remark 60 = .ok (.bipush 6, 2) := by decide +kernel
theorem d_M_remark_62 : decode b_M_remark 62 = .ok (.if_icmp .ge 22, 3) := by decide +kernel
theorem d_M_remark_65 : decode b_M_remark 65 = .ok (.iload_n 1, 1) := by decide +kernel
theorem d_M_remark_66 : decode b_M_remark 66 = .ok (.aload_n 0, 1) := by decide +kernel
theorem d_M_remark_67 : decode b_M_remark 67 = .ok (.aload_n 0, 1) := by decide +kernel
theorem d_M_remark_68 : decode b_M_remark 68 = .ok (.getfield 35, 3) := by decide +kernel
theorem d_M_remark_71 : decode b_M_remark 71 = .ok (.iload_n 2, 1) := by decide +kernel
theorem d_M_remark_72 : decode b_M_remark 72 = .ok (.iaload, 1) := by decide +kernel
theorem d_M_remark_73 : decode b_M_remark 73 = .ok (.invokevirtual 130, 3) := by decide +kernel
theorem d_M_remark_76 : decode b_M_remark 76 = .ok (.iadd, 1) := by decide +kernel
theorem d_M_remark_77 : decode b_M_remark 77 = .ok (.istore_n 1, 1) := by decide +kernel
theorem d_M_remark_78 : decode b_M_remark 78 = .ok (.iinc 2 1, 3) := by decide +kernel
theorem d_M_remark_81 : decode b_M_remark 81 = .ok (.goto (-22), 3) := by decide +kernel
theorem d_M_remark_84 : decode b_M_remark 84 = .ok (.iconst 0, 1) := by decide +kernel
theorem d_M_remark_85 : decode b_M_remark 85 = .ok (.istore_n 2, 1) := by decide +kernel
theorem d_M_remark_86 : decode b_M_remark 86 = .ok (.iload_n 2, 1) := by decide +kernel
theorem d_M_remark_87 : decode b_M_remark 87 = .ok (.bipush 90, 2) := by decide +kernel
theorem d_M_remark_89 : decode b_M_remark 89 = .ok (.if_icmp .ge 54, 3) := by decide +kernel
theorem d_M_remark_92 : decode b_M_remark 92 = .ok (.iconst 0, 1) := by decide +kernel
theorem d_M_remark_93 : decode b_M_remark 93 = .ok (.istore_n 3, 1) := by decide +kernel
theorem d_M_remark_94 : decode b_M_remark 94 = .ok (.aload_n 0, 1) := by decide +kernel
theorem d_M_remark_95 : decode b_M_remark 95 = .ok (.getfield 7, 3) := by decide +kernel
theorem d_M_remark_98 : decode b_M_remark 98 = .ok (.iload_n 2, 1) := by decide +kernel
theorem d_M_remark_99 : decode b_M_remark 99 = .ok (.iaload, 1) := by decide +kernel
theorem d_M_remark_100 : decode b_M_remark 100 = .ok (.iconst 1, 1) := by decide +kernel
theorem d_M_remark_101 : decode b_M_remark 101 = .ok (.if_icmp .ne 36, 3) := by decide +kernel
theorem d_M_remark_104 : decode b_M_remark 104 = .ok (.iload_n 3, 1) := by decide +kernel
theorem d_M_remark_105 : decode b_M_remark 105 = .ok (.aload_n 0, 1) := by decide +kernel
theorem d_M_remark_106 : decode b_M_remark 106 = .ok (.getfield 16, 3) := by decide +kernel
theorem d_M_remark_109 : decode b_M_remark 109 = .ok (.iload_n 2, 1) := by decide +kernel
theorem d_M_remark_110 : decode b_M_remark 110 = .ok (.iaload, 1) := by decide +kernel
theorem d_M_remark_111 : decode b_M_remark 111 = .ok (.if_icmp .ge 26, 3) := by decide +kernel
theorem d_M_remark_114 : decode b_M_remark 114 = .ok (.iload_n 1, 1) := by decide +kernel
theorem d_M_remark_115 : decode b_M_remark 115 = .ok (.aload_n 0, 1) := by decide +kernel
theorem d_M_remark_116 : decode b_M_remark 116 = .ok (.aload_n 0, 1) := by decide +kernel
theorem d_M_remark_117 : decode b_M_remark 117 = .ok (.getfield 19, 3) := by decide +kernel
theorem d_M_remark_120 : decode b_M_remark 120 = .ok (.iconst 3, 1) := by decide +kernel
theorem d_M_remark_121 : decode b_M_remark 121 = .ok (.iload_n 2, 1) := by decide +kernel
theorem d_M_remark_122 : decode b_M_remark 122 = .ok (.imul, 1) := by decide +kernel
theorem d_M_remark_123 : decode b_M_remark 123 = .ok (.iload_n 3, 1) := by decide +kernel
theorem d_M_remark_124 : decode b_M_remark 124 = .ok (.iadd, 1) := by decide +kernel
theorem d_M_remark_125 : decode b_M_remark 125 = .ok (.iaload, 1) := by decide +kernel
theorem d_M_remark_126 : decode b_M_remark 126 = .ok (.invokevirtual 130, 3) := by decide +kernel
theorem d_M_remark_129 : decode b_M_remark 129 = .ok (.iadd, 1) := by decide +kernel
theorem d_M_remark_130 : decode b_M_remark 130 = .ok (.istore_n 1, 1) := by decide +kernel
theorem d_M_remark_131 : decode b_M_remark 131 = .ok (.iinc 3 1, 3) := by decide +kernel
theorem d_M_remark_134 : decode b_M_remark 134 = .ok (.goto (-40), 3) := by decide +kernel
theorem d_M_remark_137 : decode b_M_remark 137 = .ok (.iinc 2 1, 3) := by decide +kernel
theorem d_M_remark_140 : decode b_M_remark 140 = .ok (.goto (-54), 3) := by decide +kernel
theorem d_M_remark_143 : decode b_M_remark 143 = .ok (.aload_n 0, 1) := by decide +kernel
theorem d_M_remark_144 : decode b_M_remark 144 = .ok (.iconst 0, 1) := by decide +kernel
theorem d_M_remark_145 : decode b_M_remark 145 = .ok (.iconst 1, 1) := by decide +kernel
theorem d_M_remark_146 : decode b_M_remark 146 = .ok (.invokevirtual 133, 3) := by decide +kernel
theorem d_M_remark_149 : decode b_M_remark 149 = .ok (.istore_n 2, 1) := by decide +kernel
theorem d_M_remark_150 : decode b_M_remark 150 = .ok (.iconst 0, 1) := by decide +kernel
theorem d_M_remark_151 : decode b_M_remark 151 = .ok (.istore_n 3, 1) := by decide +kernel
theorem d_M_remark_152 : decode b_M_remark 152 = .ok (.iload_n 3, 1) := by decide +kernel
theorem d_M_remark_153 : decode b_M_remark 153 = .ok (.sipush 200, 3) := by decide +kernel
theorem d_M_remark_156 : decode b_M_remark 156 = .ok (.if_icmp .ge 28, 3) := by decide +kernel
theorem d_M_remark_159 : decode b_M_remark 159 = .ok (.iload_n 2, 1) := by decide +kernel
theorem d_M_remark_160 : decode b_M_remark 160 = .ok (.ifCond .lt 24, 3) := by decide +kernel
theorem d_M_remark_163 : decode b_M_remark 163 = .ok (.iload_n 1, 1) := by decide +kernel
theorem d_M_remark_164 : decode b_M_remark 164 = .ok (.aload_n 0, 1) := by decide +kernel
theorem d_M_remark_165 : decode b_M_remark 165 = .ok (.iload_n 2, 1) := by decide +kernel
theorem d_M_remark_166 : decode b_M_remark 166 = .ok (.invokevirtual 137, 3) := by decide +kernel
theorem d_M_remark_169 : decode b_M_remark 169 = .ok (.iadd, 1) := by decide +kernel
theorem d_M_remark_170 : decode b_M_remark 170 = .ok (.istore_n 1, 1) := by decide +kernel
theorem d_M_remark_171 : decode b_M_remark 171 = .ok (.aload_n 0, 1) := by decide +kernel
theorem d_M_remark_172 : decode b_M_remark 172 = .ok (.iconst 0, 1) := by decide +kernel
theorem d_M_remark_173 : decode b_M_remark 173 = .ok (.iconst 1, 1) := by decide +kernel
theorem d_M_remark_174 : decode b_M_remark 174 = .ok (.invokevirtual 133, 3) := by decide +kernel
theorem d_M_remark_177 : decode b_M_remark 177 = .ok (.istore_n 2, 1) := by decide +kernel
theorem d_M_remark_178 : decode b_M_remark 178 = .ok (.iinc 3 1, 3) := by decide +kernel
theorem d_M_remark_181 : decode b_M_remark 181 = .ok (.goto (-29), 3) := by decide +kernel
theorem d_M_remark_184 : decode b_M_remark 184 = .ok (.aload_n 0, 1) := by decide +kernel
theorem d_M_remark_185 : decode b_M_remark 185 = .ok (.iconst 2, 1) := by decide +kernel
theorem d_M_remark_186 : decode b_M_remark 186 = .ok (.putfield 81, 3) := by decide +kernel
theorem d_M_remark_189 : decode b_M_remark 189 = .ok (.aload_n 0, 1) := by decide +kernel
theorem d_M_remark_190 : decode b_M_remark 190 = .ok (.iconst 0, 1) := by decide +kernel
theorem d_M_remark_191 : decode b_M_remark 191 = .ok (.putfield 143, 3) := by decide +kernel
theorem d_M_remark_194 : decode b_M_remark 194 = .ok (.iload_n 1, 1) := by decide +kernel
theorem d_M_remark_195 : decode b_M_remark 195 = .ok (.ireturn, 1) := by decide +kernel
theorem d_M_sweep_0 : decode b_M_sweep 0 = .ok (.aload_n 0, 1) := by decide +kernel
theorem d_M_sweep_1 : decode b_M_sweep 1 = .ok (.getfield 81, 3) := by decide +kernel
theorem d_M_sweep_4 : decode b_M_sweep 4 = .ok (.iconst 2, 1) := by decide +kernel
theorem d_M_sweep_5 : decode b_M_sweep 5 = .ok (.if_icmp .eq 6, 3) := by decide +kernel
theorem d_M_sweep_8 : decode b_M_sweep 8 = .ok (.bipush (-6), 2) := by decide +kernel
theorem d_M_sweep_10 : decode b_M_sweep 10 = .ok (.ireturn, 1) := by decide +kernel
theorem d_M_sweep_11 : decode b_M_sweep 11 = .ok (.aload_n 0, 1) := by decide +kernel
theorem d_M_sweep_12 : decode b_M_sweep 12 = .ok (.aload_n 0, 1) := by decide +kernel
theorem d_M_sweep_13 : decode b_M_sweep 13 = .ok (.getfield 143, 3) := by decide +kernel
theorem d_M_sweep_16 : decode b_M_sweep 16 = .ok (.iconst 0, 1) := by decide +kernel
theorem d_M_sweep_17 : decode b_M_sweep 17 = .ok (.invokevirtual 133, 3) := by decide +kernel
theorem d_M_sweep_20 : decode b_M_sweep 20 = .ok (.istore_n 1, 1) := by decide +kernel
theorem d_M_sweep_21 : decode b_M_sweep 21 = .ok (.iload_n 1, 1) := by decide +kernel
theorem d_M_sweep_22 : decode b_M_sweep 22 = .ok (.ifCond .ge 33, 3) := by decide +kernel
theorem d_M_sweep_25 : decode b_M_sweep 25 = .ok (.aload_n 0, 1) := by decide +kernel
theorem d_M_sweep_26 : decode b_M_sweep 26 = .ok (.iconst 0, 1) := by decide +kernel
theorem d_M_sweep_27 : decode b_M_sweep 27 = .ok (.putfield 81, 3) := by decide +kernel
theorem d_M_sweep_30 : decode b_M_sweep 30 = .ok (.iconst 0, 1) := by decide +kernel
theorem d_M_sweep_31 : decode b_M_sweep 31 = .ok (.istore_n 2, 1) := by decide +kernel
theorem d_M_sweep_32 : decode b_M_sweep 32 = .ok (.iload_n 2, 1) := by decide +kernel
theorem d_M_sweep_33 : decode b_M_sweep 33 = .ok (.bipush 90, 2) := by decide +kernel
theorem d_M_sweep_35 : decode b_M_sweep 35 = .ok (.if_icmp .ge 16, 3) := by decide +kernel
theorem d_M_sweep_38 : decode b_M_sweep 38 = .ok (.aload_n 0, 1) := by decide +kernel
theorem d_M_sweep_39 : decode b_M_sweep 39 = .ok (.getfield 28, 3) := by decide +kernel
theorem d_M_sweep_42 : decode b_M_sweep 42 = .ok (.iload_n 2, 1) := by decide +kernel
theorem d_M_sweep_43 : decode b_M_sweep 43 = .ok (.iconst 0, 1) := by decide +kernel
theorem d_M_sweep_44 : decode b_M_sweep 44 = .ok (.bastore, 1) := by decide +kernel
theorem d_M_sweep_45 : decode b_M_sweep 45 = .ok (.iinc 2 1, 3) := by decide +kernel
theorem d_M_sweep_48 : decode b_M_sweep 48 = .ok (.goto (-16), 3) := by decide +kernel
theorem d_M_sweep_51 : decode b_M_sweep 51 = .ok (.sipush 128, 3) := by decide +kernel
theorem d_M_sweep_54 : decode b_M_sweep 54 = .ok (.ireturn, 1) := by decide +kernel
theorem d_M_sweep_55 : decode b_M_sweep 55 = .ok (.aload_n 0, 1) := by decide +kernel
theorem d_M_sweep_56 : decode b_M_sweep 56 = .ok (.aload_n 0, 1) := by decide +kernel
theorem d_M_sweep_57 : decode b_M_sweep 57 = .ok (.getfield 25, 3) := by decide +kernel
theorem d_M_sweep_60 : decode b_M_sweep 60 = .ok (.iload_n 1, 1) := by decide +kernel
theorem d_M_sweep_61 : decode b_M_sweep 61 = .ok (.iaload, 1) := by decide +kernel
theorem d_M_sweep_62 : decode b_M_sweep 62 = .ok (.iconst 1, 1) := by decide +kernel
theorem d_M_sweep_63 : decode b_M_sweep 63 = .ok (.iadd, 1) := by decide +kernel
theorem d_M_sweep_64 : decode b_M_sweep 64 = .ok (.aload_n 0, 1) := by decide +kernel
theorem d_M_sweep_65 : decode b_M_sweep 65 = .ok (.getfield 16, 3) := by decide +kernel
theorem d_M_sweep_68 : decode b_M_sweep 68 = .ok (.iload_n 1, 1) := by decide +kernel
theorem d_M_sweep_69 : decode b_M_sweep 69 = .ok (.iaload, 1) := by decide +kernel
theorem d_M_sweep_70 : decode b_M_sweep 70 = .ok (.iadd, 1) := by decide +kernel
theorem d_M_sweep_71 : decode b_M_sweep 71 = .ok (.putfield 143, 3) := by decide +kernel
theorem d_M_sweep_74 : decode b_M_sweep 74 = .ok (.aload_n 0, 1) := by decide +kernel
theorem d_M_sweep_75 : decode b_M_sweep 75 = .ok (.getfield 28, 3) := by decide +kernel
theorem d_M_sweep_78 : decode b_M_sweep 78 = .ok (.iload_n 1, 1) := by decide +kernel
theorem d_M_sweep_79 : decode b_M_sweep 79 = .ok (.baload, 1) := by decide +kernel
theorem d_M_sweep_80 : decode b_M_sweep 80 = .ok (.ifCond .eq 13, 3) := by decide +kernel
theorem d_M_sweep_83 : decode b_M_sweep 83 = .ok (.bipush 64, 2) := by decide +kernel
theorem d_M_sweep_85 : decode b_M_sweep 85 = .ok (.aload_n 0, 1) := by decide +kernel
theorem d_M_sweep_86 : decode b_M_sweep 86 = .ok (.getfield 25, 3) := by decide +kernel
theorem d_M_sweep_89 : decode b_M_sweep 89 = .ok (.iload_n 1, 1) := by decide +kernel
theorem d_M_sweep_90 : decode b_M_sweep 90 = .ok (.iaload, 1) := by decide +kernel
theorem d_M_sweep_91 : decode b_M_sweep 91 = .ok (.iadd, 1) := by decide +kernel
theorem d_M_sweep_92 : decode b_M_sweep 92 = .ok (.ireturn, 1) := by decide +kernel
theorem d_M_sweep_93 : decode b_M_sweep 93 = .ok (.aload_n 0, 1) := by decide +kernel
theorem d_M_sweep_94 : decode b_M_sweep 94 = .ok (.iload_n 1, 1) := by decide +kernel
theorem d_M_sweep_95 : decode b_M_sweep 95 = .ok (.invokevirtual 98, 3) := by decide +kernel
theorem d_M_sweep_98 : decode b_M_sweep 98 = .ok (.aload_n 0, 1) := by decide +kernel
theorem d_M_sweep_99 : decode b_M_sweep 99 = .ok (.getfield 25, 3) := by decide +kernel
theorem d_M_sweep_102 : decode b_M_sweep 102 = .ok (.iload_n 1, 1) := by decide +kernel
theorem d_M_sweep_103 : decode b_M_sweep 103 = .ok (.iaload, 1) := by decide +kernel
theorem d_M_sweep_104 : decode b_M_sweep 104 = .ok (.ireturn, 1) := by decide +kernel
theorem d_M_phase_0 : decode b_M_phase 0 = .ok (.aload_n 0, 1) := by decide +kernel
theorem d_M_phase_1 : decode b_M_phase 1 = .ok (.getfield 81, 3) := by decide +kernel
theorem d_M_phase_4 : decode b_M_phase 4 = .ok (.ireturn, 1) := by decide +kernel
theorem d_M_cells_0 : decode b_M_cells 0 = .ok (.iconst 0, 1) := by decide +kernel
theorem d_M_cells_1 : decode b_M_cells 1 = .ok (.istore_n 2, 1) := by decide +kernel
theorem d_M_cells_2 : decode b_M_cells 2 = .ok (.iconst 0, 1) := by decide +kernel
theorem d_M_cells_3 : decode b_M_cells 3 = .ok (.istore_n 3, 1) := by decide +kernel
theorem d_M_cells_4 : decode b_M_cells 4 = .ok (.iload_n 3, 1) := by decide +kernel
theorem d_M_cells_5 : decode b_M_cells 5 = .ok (.bipush 90, 2) := by decide +kernel
theorem d_M_cells_7 : decode b_M_cells 7 = .ok (.if_icmp .ge 34, 3) := by decide +kernel
theorem d_M_cells_10 : decode b_M_cells 10 = .ok (.aload_n 0, 1) := by decide +kernel
theorem d_M_cells_11 : decode b_M_cells 11 = .ok (.getfield 7, 3) := by decide +kernel
theorem d_M_cells_14 : decode b_M_cells 14 = .ok (.iload_n 3, 1) := by decide +kernel
theorem d_M_cells_15 : decode b_M_cells 15 = .ok (.iaload, 1) := by decide +kernel
theorem d_M_cells_16 : decode b_M_cells 16 = .ok (.iload_n 1, 1) := by decide +kernel
theorem d_M_cells_17 : decode b_M_cells 17 = .ok (.if_icmp .ne 16, 3) := by decide +kernel
theorem d_M_cells_20 : decode b_M_cells 20 = .ok (.iload_n 2, 1) := by decide +kernel
theorem d_M_cells_21 : decode b_M_cells 21 = .ok (.iconst 1, 1) := by decide +kernel
theorem d_M_cells_22 : decode b_M_cells 22 = .ok (.iadd, 1) := by decide +kernel
theorem d_M_cells_23 : decode b_M_cells 23 = .ok (.aload_n 0, 1) := by decide +kernel
theorem d_M_cells_24 : decode b_M_cells 24 = .ok (.getfield 16, 3) := by decide +kernel
theorem d_M_cells_27 : decode b_M_cells 27 = .ok (.iload_n 3, 1) := by decide +kernel
theorem d_M_cells_28 : decode b_M_cells 28 = .ok (.iaload, 1) := by decide +kernel
theorem d_M_cells_29 : decode b_M_cells 29 = .ok (.iadd, 1) := by decide +kernel
theorem d_M_cells_30 : decode b_M_cells 30 = .ok (.goto 4, 3) := by decide +kernel
theorem d_M_cells_33 : decode b_M_cells 33 = .ok (.iload_n 2, 1) := by decide +kernel
theorem d_M_cells_34 : decode b_M_cells 34 = .ok (.istore_n 2, 1) := by decide +kernel
theorem d_M_cells_35 : decode b_M_cells 35 = .ok (.iinc 3 1, 3) := by decide +kernel
theorem d_M_cells_38 : decode b_M_cells 38 = .ok (.goto (-34), 3) := by decide +kernel
theorem d_M_cells_41 : decode b_M_cells 41 = .ok (.iload_n 2, 1) := by decide +kernel
theorem d_M_cells_42 : decode b_M_cells 42 = .ok (.ireturn, 1) := by decide +kernel
theorem d_M_oldCells_0 : decode b_M_oldCells 0 = .ok (.aload_n 0, 1) := by decide +kernel
theorem d_M_oldCells_1 : decode b_M_oldCells 1 = .ok (.iconst 2, 1) := by decide +kernel
theorem d_M_oldCells_2 : decode b_M_oldCells 2 = .ok (.invokevirtual 146, 3) := by decide +kernel
theorem d_M_oldCells_5 : decode b_M_oldCells 5 = .ok (.ireturn, 1) := by decide +kernel
theorem d_M_youngCells_0 : decode b_M_youngCells 0 = .ok (.aload_n 0, 1) := by decide +kernel
theorem d_M_youngCells_1 : decode b_M_youngCells 1 = .ok (.iconst 1, 1) := by decide +kernel
theorem d_M_youngCells_2 : decode b_M_youngCells 2 = .ok (.invokevirtual 146, 3) := by decide +kernel
theorem d_M_youngCells_5 : decode b_M_youngCells 5 = .ok (.ireturn, 1) := by decide +kernel
theorem d_M_cards_0 : decode b_M_cards 0 = .ok (.iconst 0, 1) := by decide +kernel
theorem d_M_cards_1 : decode b_M_cards 1 = .ok (.istore_n 1, 1) := by decide +kernel
theorem d_M_cards_2 : decode b_M_cards 2 = .ok (.iconst 0, 1) := by decide +kernel
theorem d_M_cards_3 : decode b_M_cards 3 = .ok (.istore_n 2, 1) := by decide +kernel
theorem d_M_cards_4 : decode b_M_cards 4 = .ok (.iload_n 2, 1) := by decide +kernel
theorem d_M_cards_5 : decode b_M_cards 5 = .ok (.bipush 8, 2) := by decide +kernel
theorem d_M_cards_7 : decode b_M_cards 7 = .ok (.if_icmp .ge 47, 3) := by decide +kernel
theorem d_M_cards_10 : decode b_M_cards 10 = .ok (.iload_n 1, 1) := by decide +kernel
theorem d_M_cards_11 : decode b_M_cards 11 = .ok (.aload_n 0, 1) := by decide +kernel
theorem d_M_cards_12 : decode b_M_cards 12 = .ok (.getfield 38, 3) := by decide +kernel
theorem d_M_cards_15 : decode b_M_cards 15 = .ok (.iload_n 2, 1) := by decide +kernel
theorem d_M_cards_16 : decode b_M_cards 16 = .ok (.baload, 1) := by decide +kernel
theorem d_M_cards_17 : decode b_M_cards 17 = .ok (.ifCond .eq 9, 3) := by decide +kernel
theorem d_M_cards_20 : decode b_M_cards 20 = .ok (.iconst 1, 1) := by decide +kernel
theorem d_M_cards_21 : decode b_M_cards 21 = .ok (.iload_n 2, 1) := by decide +kernel
theorem d_M_cards_22 : decode b_M_cards 22 = .ok (.ishl, 1) := by decide +kernel
theorem d_M_cards_23 : decode b_M_cards 23 = .ok (.goto 4, 3) := by decide +kernel
theorem d_M_cards_26 : decode b_M_cards 26 = .ok (.iconst 0, 1) := by decide +kernel
theorem d_M_cards_27 : decode b_M_cards 27 = .ok (.iadd, 1) := by decide +kernel
theorem d_M_cards_28 : decode b_M_cards 28 = .ok (.aload_n 0, 1) := by decide +kernel
theorem d_M_cards_29 : decode b_M_cards 29 = .ok (.getfield 41, 3) := by decide +kernel
theorem d_M_cards_32 : decode b_M_cards 32 = .ok (.iload_n 2, 1) := by decide +kernel
theorem d_M_cards_33 : decode b_M_cards 33 = .ok (.baload, 1) := by decide +kernel
theorem d_M_cards_34 : decode b_M_cards 34 = .ok (.ifCond .eq 11, 3) := by decide +kernel
theorem d_M_cards_37 : decode b_M_cards 37 = .ok (.sipush 256, 3) := by decide +kernel
theorem d_M_cards_40 : decode b_M_cards 40 = .ok (.iload_n 2, 1) := by decide +kernel
theorem d_M_cards_41 : decode b_M_cards 41 = .ok (.ishl, 1) := by decide +kernel
theorem d_M_cards_42 : decode b_M_cards 42 = .ok (.goto 4, 3) := by decide +kernel
theorem d_M_cards_45 : decode b_M_cards 45 = .ok (.iconst 0, 1) := by decide +kernel
theorem d_M_cards_46 : decode b_M_cards 46 = .ok (.iadd, 1) := by decide +kernel
theorem d_M_cards_47 : decode b_M_cards 47 = .ok (.istore_n 1, 1) := by decide +kernel
theorem d_M_cards_48 : decode b_M_cards 48 = .ok (.iinc 2 1, 3) := by decide +kernel
theorem d_M_cards_51 : decode b_M_cards 51 = .ok (.goto (-47), 3) := by decide +kernel
theorem d_M_cards_54 : decode b_M_cards 54 = .ok (.iload_n 1, 1) := by decide +kernel
theorem d_M_cards_55 : decode b_M_cards 55 = .ok (.ireturn, 1) := by decide +kernel
theorem d_M_marked_0 : decode b_M_marked 0 = .ok (.iconst 0, 1) := by decide +kernel
theorem d_M_marked_1 : decode b_M_marked 1 = .ok (.istore_n 1, 1) := by decide +kernel
theorem d_M_marked_2 : decode b_M_marked 2 = .ok (.iconst 0, 1) := by decide +kernel
theorem d_M_marked_3 : decode b_M_marked 3 = .ok (.istore_n 2, 1) := by decide +kernel
theorem d_M_marked_4 : decode b_M_marked 4 = .ok (.iload_n 2, 1) := by decide +kernel
theorem d_M_marked_5 : decode b_M_marked 5 = .ok (.bipush 90, 2) := by decide +kernel
theorem d_M_marked_7 : decode b_M_marked 7 = .ok (.if_icmp .ge 43, 3) := by decide +kernel
theorem d_M_marked_10 : decode b_M_marked 10 = .ok (.iload_n 1, 1) := by decide +kernel
theorem d_M_marked_11 : decode b_M_marked 11 = .ok (.aload_n 0, 1) := by decide +kernel
theorem d_M_marked_12 : decode b_M_marked 12 = .ok (.getfield 28, 3) := by decide +kernel
theorem d_M_marked_15 : decode b_M_marked 15 = .ok (.iload_n 2, 1) := by decide +kernel
theorem d_M_marked_16 : decode b_M_marked 16 = .ok (.baload, 1) := by decide +kernel
theorem d_M_marked_17 : decode b_M_marked 17 = .ok (.ifCond .eq 7, 3) := by decide +kernel
theorem d_M_marked_20 : decode b_M_marked 20 = .ok (.iconst 1, 1) := by decide +kernel
theorem d_M_marked_21 : decode b_M_marked 21 = .ok (.goto 4, 3) := by decide +kernel
theorem d_M_marked_24 : decode b_M_marked 24 = .ok (.iconst 0, 1) := by decide +kernel
theorem d_M_marked_25 : decode b_M_marked 25 = .ok (.iadd, 1) := by decide +kernel
theorem d_M_marked_26 : decode b_M_marked 26 = .ok (.aload_n 0, 1) := by decide +kernel
theorem d_M_marked_27 : decode b_M_marked 27 = .ok (.getfield 32, 3) := by decide +kernel
theorem d_M_marked_30 : decode b_M_marked 30 = .ok (.iload_n 2, 1) := by decide +kernel
theorem d_M_marked_31 : decode b_M_marked 31 = .ok (.baload, 1) := by decide +kernel
theorem d_M_marked_32 : decode b_M_marked 32 = .ok (.ifCond .eq 9, 3) := by decide +kernel
theorem d_M_marked_35 : decode b_M_marked 35 = .ok (.sipush 1000, 3) := by decide +kernel
theorem d_M_marked_38 : decode b_M_marked 38 = .ok (.goto 4, 3) := by decide +kernel
theorem d_M_marked_41 : decode b_M_marked 41 = .ok (.iconst 0, 1) := by decide +kernel
theorem d_M_marked_42 : decode b_M_marked 42 = .ok (.iadd, 1) := by decide +kernel
theorem d_M_marked_43 : decode b_M_marked 43 = .ok (.istore_n 1, 1) := by decide +kernel
theorem d_M_marked_44 : decode b_M_marked 44 = .ok (.iinc 2 1, 3) := by decide +kernel
theorem d_M_marked_47 : decode b_M_marked 47 = .ok (.goto (-43), 3) := by decide +kernel
theorem d_M_marked_50 : decode b_M_marked 50 = .ok (.iload_n 1, 1) := by decide +kernel
theorem d_M_marked_51 : decode b_M_marked 51 = .ok (.ireturn, 1) := by decide +kernel
