theorem dX0_init_0 : decode cX0_init 0 = .ok (.aload_n 0, 1) := by decide +kernel
theorem dX0_init_1 : decode cX0_init 1 = .ok (.invokespecial 3, 3) := by decide +kernel
theorem dX0_init_4 : decode cX0_init 4 = .ok (.aload_n 0, 1) := by decide +kernel
theorem dX0_init_5 : decode cX0_init 5 = .ok (.sipush 270, 3) := by decide +kernel
theorem dX0_init_8 : decode cX0_init 8 = .ok (.newarray .int, 2) := by decide +kernel
theorem dX0_init_10 : decode cX0_init 10 = .ok (.putfield 11, 3) := by decide +kernel
theorem dX0_init_13 : decode cX0_init 13 = .ok (.aload_n 0, 1) := by decide +kernel
theorem dX0_init_14 : decode cX0_init 14 = .ok (.bipush 31, 2) := by decide +kernel
theorem dX0_init_16 : decode cX0_init 16 = .ok (.newarray .int, 2) := by decide +kernel
theorem dX0_init_18 : decode cX0_init 18 = .ok (.putfield 15, 3) := by decide +kernel
theorem dX0_init_21 : decode cX0_init 21 = .ok (.aload_n 0, 1) := by decide +kernel
theorem dX0_init_22 : decode cX0_init 22 = .ok (.bipush 6, 2) := by decide +kernel
theorem dX0_init_24 : decode cX0_init 24 = .ok (.newarray .int, 2) := by decide +kernel
theorem dX0_init_26 : decode cX0_init 26 = .ok (.putfield 18, 3) := by decide +kernel
theorem dX0_init_29 : decode cX0_init 29 = .ok (.return_, 1) := by decide +kernel
theorem dX0_clear_0 : decode cX0_clear 0 = .ok (.aload_n 0, 1) := by decide +kernel
theorem dX0_clear_1 : decode cX0_clear 1 = .ok (.iconst 0, 1) := by decide +kernel
theorem dX0_clear_2 : decode cX0_clear 2 = .ok (.putfield 21, 3) := by decide +kernel
theorem dX0_clear_5 : decode cX0_clear 5 = .ok (.return_, 1) := by decide +kernel
theorem dX0_add_0 : decode cX0_add 0 = .ok (.aload_n 0, 1) := by decide +kernel
theorem dX0_add_1 : decode cX0_add 1 = .ok (.getfield 21, 3) := by decide +kernel
theorem dX0_add_4 : decode cX0_add 4 = .ok (.aload_n 0, 1) := by decide +kernel
theorem dX0_add_5 : decode cX0_add 5 = .ok (.getfield 11, 3) := by decide +kernel
theorem dX0_add_8 : decode cX0_add 8 = .ok (.arraylength, 1) := by decide +kernel
theorem dX0_add_9 : decode cX0_add 9 = .ok (.if_icmp .ge 23, 3) := by decide +kernel
theorem dX0_add_12 : decode cX0_add 12 = .ok (.aload_n 0, 1) := by decide +kernel
theorem dX0_add_13 : decode cX0_add 13 = .ok (.getfield 11, 3) := by decide +kernel
theorem dX0_add_16 : decode cX0_add 16 = .ok (.aload_n 0, 1) := by decide +kernel
theorem dX0_add_17 : decode cX0_add 17 = .ok (.getfield 21, 3) := by decide +kernel
theorem dX0_add_20 : decode cX0_add 20 = .ok (.iload_n 1, 1) := by decide +kernel
theorem dX0_add_21 : decode cX0_add 21 = .ok (.iastore, 1) := by decide +kernel
theorem dX0_add_22 : decode cX0_add 22 = .ok (.aload_n 0, 1) := by decide +kernel
theorem dX0_add_23 : decode cX0_add 23 = .ok (.dup, 1) := by decide +kernel
theorem dX0_add_24 : decode cX0_add 24 = .ok (.getfield 21, 3) := by decide +kernel
theorem dX0_add_27 : decode cX0_add 27 = .ok (.iconst 1, 1) := by decide +kernel
theorem dX0_add_28 : decode cX0_add 28 = .ok (.iadd, 1) := by decide +kernel
theorem dX0_add_29 : decode cX0_add 29 = .ok (.putfield 21, 3) := by decide +kernel
theorem dX0_add_32 : decode cX0_add 32 = .ok (.return_, 1) := by decide +kernel
theorem dX0_delay_0 : decode cX0_delay 0 = .ok (.aload_n 0, 1) := by decide +kernel
theorem dX0_delay_1 : decode cX0_delay 1 = .ok (.getfield 21, 3) := by decide +kernel
theorem dX0_delay_4 : decode cX0_delay 4 = .ok (.ifCond .ne 5, 3) := by decide +kernel
theorem dX0_delay_7 : decode cX0_delay 7 = .ok (.iconst 1, 1) := by decide +kernel
theorem dX0_delay_8 : decode cX0_delay 8 = .ok (.ireturn, 1) := by decide +kernel
theorem dX0_delay_9 : decode cX0_delay 9 = .ok (.aload_n 0, 1) := by decide +kernel
theorem dX0_delay_10 : decode cX0_delay 10 = .ok (.getfield 18, 3) := by decide +kernel
theorem dX0_delay_13 : decode cX0_delay 13 = .ok (.iconst 0, 1) := by decide +kernel
theorem dX0_delay_14 : decode cX0_delay 14 = .ok (.iload_n 1, 1) := by decide +kernel
theorem dX0_delay_15 : decode cX0_delay 15 = .ok (.iastore, 1) := by decide +kernel
theorem dX0_delay_16 : decode cX0_delay 16 = .ok (.aload_n 0, 1) := by decide +kernel
theorem dX0_delay_17 : decode cX0_delay 17 = .ok (.getfield 18, 3) := by decide +kernel
theorem dX0_delay_20 : decode cX0_delay 20 = .ok (.iconst 1, 1) := by decide +kernel
theorem dX0_delay_21 : decode cX0_delay 21 = .ok (.iload_n 2, 1) := by decide +kernel
theorem dX0_delay_22 : decode cX0_delay 22 = .ok (.iastore, 1) := by decide +kernel
theorem dX0_delay_23 : decode cX0_delay 23 = .ok (.aload_n 0, 1) := by decide +kernel
theorem dX0_delay_24 : decode cX0_delay 24 = .ok (.getfield 18, 3) := by decide +kernel
theorem dX0_delay_27 : decode cX0_delay 27 = .ok (.iconst 2, 1) := by decide +kernel
theorem dX0_delay_28 : decode cX0_delay 28 = .ok (.iload_n 3, 1) := by decide +kernel
theorem dX0_delay_29 : decode cX0_delay 29 = .ok (.iastore, 1) := by decide +kernel
theorem dX0_delay_30 : decode cX0_delay 30 = .ok (.aload_n 0, 1) := by decide +kernel
theorem dX0_delay_31 : decode cX0_delay 31 = .ok (.getfield 18, 3) := by decide +kernel
theorem dX0_delay_34 : decode cX0_delay 34 = .ok (.iconst 3, 1) := by decide +kernel
theorem dX0_delay_35 : decode cX0_delay 35 = .ok (.iload 4, 2) := by decide +kernel
theorem dX0_delay_37 : decode cX0_delay 37 = .ok (.iastore, 1) := by decide +kernel
theorem dX0_delay_38 : decode cX0_delay 38 = .ok (.aload_n 0, 1) := by decide +kernel
theorem dX0_delay_39 : decode cX0_delay 39 = .ok (.getfield 18, 3) := by decide +kernel
theorem dX0_delay_42 : decode cX0_delay 42 = .ok (.iconst 4, 1) := by decide +kernel
theorem dX0_delay_43 : decode cX0_delay 43 = .ok (.iload 5, 2) := by decide +kernel
theorem dX0_delay_45 : decode cX0_delay 45 = .ok (.iastore, 1) := by decide +kernel
theorem dX0_delay_46 : decode cX0_delay 46 = .ok (.aload_n 0, 1) := by decide +kernel
theorem dX0_delay_47 : decode cX0_delay 47 = .ok (.getfield 18, 3) := by decide +kernel
theorem dX0_delay_50 : decode cX0_delay 50 = .ok (.iconst 5, 1) := by decide +kernel
theorem dX0_delay_51 : decode cX0_delay 51 = .ok (.iload 6, 2) := by decide +kernel
theorem dX0_delay_53 : decode cX0_delay 53 = .ok (.iastore, 1) := by decide +kernel
theorem dX0_delay_54 : decode cX0_delay 54 = .ok (.iconst 0, 1) := by decide +kernel
theorem dX0_delay_55 : decode cX0_delay 55 = .ok (.istore 7, 2) := by decide +kernel
theorem dX0_delay_57 : decode cX0_delay 57 = .ok (.iconst 0, 1) := by decide +kernel
theorem dX0_delay_58 : decode cX0_delay 58 = .ok (.istore 8, 2) := by decide +kernel
theorem dX0_delay_60 : decode cX0_delay 60 = .ok (.iload 8, 2) := by decide +kernel
theorem dX0_delay_62 : decode cX0_delay 62 = .ok (.aload_n 0, 1) := by decide +kernel
theorem dX0_delay_63 : decode cX0_delay 63 = .ok (.getfield 21, 3) := by decide +kernel
theorem dX0_delay_66 : decode cX0_delay 66 = .ok (.if_icmp .ge 149, 3) := by decide +kernel
theorem dX0_delay_69 : decode cX0_delay 69 = .ok (.aload_n 0, 1) := by decide +kernel
theorem dX0_delay_70 : decode cX0_delay 70 = .ok (.getfield 11, 3) := by decide +kernel
theorem dX0_delay_73 : decode cX0_delay 73 = .ok (.iload 8, 2) := by decide +kernel
theorem dX0_delay_75 : decode cX0_delay 75 = .ok (.iaload, 1) := by decide +kernel
theorem dX0_delay_76 : decode cX0_delay 76 = .ok (.istore 9, 2) := by decide +kernel
theorem dX0_delay_78 : decode cX0_delay 78 = .ok (.iload 9, 2) := by decide +kernel
theorem dX0_delay_80 : decode cX0_delay 80 = .ok (.ifCond .ge 10, 3) := by decide +kernel
theorem dX0_delay_83 : decode cX0_delay 83 = .ok (.iload 9, 2) := by decide +kernel
theorem dX0_delay_85 : decode cX0_delay 85 = .ok (.bipush (-20), 2) := by decide +kernel
theorem dX0_delay_87 : decode cX0_delay 87 = .ok (.if_icmp .gt 42, 3) := by decide +kernel
theorem dX0_delay_90 : decode cX0_delay 90 = .ok (.iload 7, 2) := by decide +kernel
theorem dX0_delay_92 : decode cX0_delay 92 = .ok (.aload_n 0, 1) := by decide +kernel
theorem dX0_delay_93 : decode cX0_delay 93 = .ok (.getfield 15, 3) := by decide +kernel
theorem dX0_delay_96 : decode cX0_delay 96 = .ok (.arraylength, 1) := by decide +kernel
theorem dX0_delay_97 : decode cX0_delay 97 = .ok (.if_icmp .ge 112, 3) := by decide +kernel
theorem dX0_delay_100 : decode cX0_delay 100 = .ok (.aload_n 0, 1) := by decide +kernel
theorem dX0_delay_101 : decode cX0_delay 101 = .ok (.getfield 15, 3) := by decide +kernel
theorem dX0_delay_104 : decode cX0_delay 104 = .ok (.iload 7, 2) := by decide +kernel
theorem dX0_delay_106 : decode cX0_delay 106 = .ok (.iload 9, 2) := by decide +kernel
theorem dX0_delay_108 : decode cX0_delay 108 = .ok (.ifCond .lt 8, 3) := by decide +kernel
theorem dX0_delay_111 : decode cX0_delay 111 = .ok (.iload 9, 2) := by decide +kernel
theorem dX0_delay_113 : decode cX0_delay 113 = .ok (.goto 9, 3) := by decide +kernel
theorem dX0_delay_116 : decode cX0_delay 116 = .ok (.aload_n 0, 1) := by decide +kernel
theorem dX0_delay_117 : decode cX0_delay 117 = .ok (.iload 9, 2) := by decide +kernel
theorem dX0_delay_119 : decode cX0_delay 119 = .ok (.invokevirtual 25, 3) := by decide +kernel
theorem dX0_delay_122 : decode cX0_delay 122 = .ok (.iastore, 1) := by decide +kernel
theorem dX0_delay_123 : decode cX0_delay 123 = .ok (.iinc 7 1, 3) := by decide +kernel
theorem dX0_delay_126 : decode cX0_delay 126 = .ok (.goto 83, 3) := by decide +kernel
theorem dX0_delay_129 : decode cX0_delay 129 = .ok (.iload 9, 2) := by decide +kernel
theorem dX0_delay_131 : decode cX0_delay 131 = .ok (.bipush (-3), 2) := by decide +kernel
theorem dX0_delay_133 : decode cX0_delay 133 = .ok (.if_icmp .ne 37, 3) := by decide +kernel
theorem dX0_delay_136 : decode cX0_delay 136 = .ok (.iload 7, 2) := by decide +kernel
theorem dX0_delay_138 : decode cX0_delay 138 = .ok (.ifCond .le 71, 3) := by decide +kernel
theorem dX0_delay_141 : decode cX0_delay 141 = .ok (.aload_n 0, 1) := by decide +kernel
theorem dX0_delay_142 : decode cX0_delay 142 = .ok (.getfield 15, 3) := by decide +kernel
theorem dX0_delay_145 : decode cX0_delay 145 = .ok (.iload 7, 2) := by decide +kernel
theorem dX0_delay_147 : decode cX0_delay 147 = .ok (.iconst 1, 1) := by decide +kernel
theorem dX0_delay_148 : decode cX0_delay 148 = .ok (.isub, 1) := by decide +kernel
theorem dX0_delay_149 : decode cX0_delay 149 = .ok (.aload_n 0, 1) := by decide +kernel
theorem dX0_delay_150 : decode cX0_delay 150 = .ok (.getfield 15, 3) := by decide +kernel
theorem dX0_delay_153 : decode cX0_delay 153 = .ok (.iload 7, 2) := by decide +kernel
theorem dX0_delay_155 : decode cX0_delay 155 = .ok (.iconst 1, 1) := by decide +kernel
theorem dX0_delay_156 : decode cX0_delay 156 = .ok (.isub, 1) := by decide +kernel
theorem dX0_delay_157 : decode cX0_delay 157 = .ok (.iaload, 1) := by decide +kernel
theorem dX0_delay_158 : decode cX0_delay 158 = .ok (.ifCond .ne 7, 3) := by decide +kernel
theorem dX0_delay_161 : decode cX0_delay 161 = .ok (.iconst 1, 1) := by decide +kernel
theorem dX0_delay_162 : decode cX0_delay 162 = .ok (.goto 4, 3) := by decide +kernel
theorem dX0_delay_165 : decode cX0_delay 165 = .ok (.iconst 0, 1) := by decide +kernel
theorem dX0_delay_166 : decode cX0_delay 166 = .ok (.iastore, 1) := by decide +kernel
theorem dX0_delay_167 : decode cX0_delay 167 = .ok (.goto 42, 3) := by decide +kernel
theorem dX0_delay_170 : decode cX0_delay 170 = .ok (.iload 7, 2) := by decide +kernel
theorem dX0_delay_172 : decode cX0_delay 172 = .ok (.iconst 1, 1) := by decide +kernel
theorem dX0_delay_173 : decode cX0_delay 173 = .ok (.if_icmp .le 36, 3) := by decide +kernel
theorem dX0_delay_176 : decode cX0_delay 176 = .ok (.iinc 7 (-1), 3) := by decide +kernel
theorem dX0_delay_179 : decode cX0_delay 179 = .ok (.aload_n 0, 1) := by decide +kernel
theorem dX0_delay_180 : decode cX0_delay 180 = .ok (.getfield 15, 3) := by decide +kernel
theorem dX0_delay_183 : decode cX0_delay 183 = .ok (.iload 7, 2) := by decide +kernel
theorem dX0_delay_185 : decode cX0_delay 185 = .ok (.iconst 1, 1) := by decide +kernel
theorem dX0_delay_186 : decode cX0_delay 186 = .ok (.isub, 1) := by decide +kernel
theorem dX0_delay_187 : decode cX0_delay 187 = .ok (.iload 9, 2) := by decide +kernel
theorem dX0_delay_189 : decode cX0_delay 189 = .ok (.aload_n 0, 1) := by decide +kernel
theorem dX0_delay_190 : decode cX0_delay 190 = .ok (.getfield 15, 3) := by decide +kernel
theorem dX0_delay_193 : decode cX0_delay 193 = .ok (.iload 7, 2) := by decide +kernel
theorem dX0_delay_195 : decode cX0_delay 195 = .ok (.iconst 1, 1) := by decide +kernel
theorem dX0_delay_196 : decode cX0_delay 196 = .ok (.isub, 1) := by decide +kernel
theorem dX0_delay_197 : decode cX0_delay 197 = .ok (.iaload, 1) := by decide +kernel
theorem dX0_delay_198 : decode cX0_delay 198 = .ok (.aload_n 0, 1) := by decide +kernel
theorem dX0_delay_199 : decode cX0_delay 199 = .ok (.getfield 15, 3) := by decide +kernel
theorem dX0_delay_202 : decode cX0_delay 202 = .ok (.iload 7, 2) := by decide +kernel
theorem dX0_delay_204 : decode cX0_delay 204 = .ok (.iaload, 1) := by decide +kernel
theorem dX0_delay_205 : decode cX0_delay 205 = .ok (.invokestatic 29, 3) := by decide +kernel
theorem dX0_delay_208 : decode cX0_delay 208 = .ok (.iastore, 1) := by decide +kernel
theorem dX0_delay_209 : decode cX0_delay 209 = .ok (.iinc 8 1, 3) := by decide +kernel
theorem dX0_delay_212 : decode cX0_delay 212 = .ok (.goto (-152), 3) := by decide +kernel
theorem dX0_delay_215 : decode cX0_delay 215 = .ok (.iconst 1, 1) := by decide +kernel
theorem dX0_delay_216 : decode cX0_delay 216 = .ok (.bipush 9, 2) := by decide +kernel
theorem dX0_delay_218 : decode cX0_delay 218 = .ok (.aload_n 0, 1) := by decide +kernel
theorem dX0_delay_219 : decode cX0_delay 219 = .ok (.getfield 15, 3) := by decide +kernel
theorem dX0_delay_222 : decode cX0_delay 222 = .ok (.iconst 0, 1) := by decide +kernel
theorem dX0_delay_223 : decode cX0_delay 223 = .ok (.iaload, 1) := by decide +kernel
theorem dX0_delay_224 : decode cX0_delay 224 = .ok (.invokestatic 33, 3) := by decide +kernel
theorem dX0_delay_227 : decode cX0_delay 227 = .ok (.invokestatic 39, 3) := by decide +kernel
theorem dX0_delay_230 : decode cX0_delay 230 = .ok (.ireturn, 1) := by decide +kernel
theorem dX0_factOf_0 : decode cX0_factOf 0 = .ok (.bipush (-20), 2) := by decide +kernel
theorem dX0_factOf_2 : decode cX0_factOf 2 = .ok (.iload_n 1, 1) := by decide +kernel
theorem dX0_factOf_3 : decode cX0_factOf 3 = .ok (.isub, 1) := by decide +kernel
theorem dX0_factOf_4 : decode cX0_factOf 4 = .ok (.istore_n 2, 1) := by decide +kernel
theorem dX0_factOf_5 : decode cX0_factOf 5 = .ok (.iload_n 2, 1) := by decide +kernel
theorem dX0_factOf_6 : decode cX0_factOf 6 = .ok (.ifCond .lt 18, 3) := by decide +kernel
theorem dX0_factOf_9 : decode cX0_factOf 9 = .ok (.iload_n 2, 1) := by decide +kernel
theorem dX0_factOf_10 : decode cX0_factOf 10 = .ok (.bipush 6, 2) := by decide +kernel
theorem dX0_factOf_12 : decode cX0_factOf 12 = .ok (.if_icmp .ge 12, 3) := by decide +kernel
theorem dX0_factOf_15 : decode cX0_factOf 15 = .ok (.aload_n 0, 1) := by decide +kernel
theorem dX0_factOf_16 : decode cX0_factOf 16 = .ok (.getfield 18, 3) := by decide +kernel
theorem dX0_factOf_19 : decode cX0_factOf 19 = .ok (.iload_n 2, 1) := by decide +kernel
theorem dX0_factOf_20 : decode cX0_factOf 20 = .ok (.iaload, 1) := by decide +kernel
theorem dX0_factOf_21 : decode cX0_factOf 21 = .ok (.goto 4, 3) := by decide +kernel
theorem dX0_factOf_24 : decode cX0_factOf 24 = .ok (.iconst 0, 1) := by decide +kernel
theorem dX0_factOf_25 : decode cX0_factOf 25 = .ok (.ireturn, 1) := by decide +kernel
theorem dX0_joined_0 : decode cX0_joined 0 = .ok (.iload_n 0, 1) := by decide +kernel
theorem dX0_joined_1 : decode cX0_joined 1 = .ok (.tableswitch 156 (-11) (-1) #[144, 132, 128, 124, 120, 109, 98, 87, 156, 73, 59], 59) := by decide +kernel
theorem dX0_joined_60 : decode cX0_joined 60 = .ok (.iload_n 1, 1) := by decide +kernel
theorem dX0_joined_61 : decode cX0_joined 61 = .ok (.ifCond .ne 7, 3) := by decide +kernel
theorem dX0_joined_64 : decode cX0_joined 64 = .ok (.iload_n 2, 1) := by decide +kernel
theorem dX0_joined_65 : decode cX0_joined 65 = .ok (.ifCond .eq 7, 3) := by decide +kernel
theorem dX0_joined_68 : decode cX0_joined 68 = .ok (.iconst 1, 1) := by decide +kernel
theorem dX0_joined_69 : decode cX0_joined 69 = .ok (.goto 4, 3) := by decide +kernel
theorem dX0_joined_72 : decode cX0_joined 72 = .ok (.iconst 0, 1) := by decide +kernel
theorem dX0_joined_73 : decode cX0_joined 73 = .ok (.ireturn, 1) := by decide +kernel
theorem dX0_joined_74 : decode cX0_joined 74 = .ok (.iload_n 1, 1) := by decide +kernel
theorem dX0_joined_75 : decode cX0_joined 75 = .ok (.ifCond .eq 11, 3) := by decide +kernel
theorem dX0_joined_78 : decode cX0_joined 78 = .ok (.iload_n 2, 1) := by decide +kernel
theorem dX0_joined_79 : decode cX0_joined 79 = .ok (.ifCond .eq 7, 3) := by decide +kernel
theorem dX0_joined_82 : decode cX0_joined 82 = .ok (.iconst 1, 1) := by decide +kernel
theorem dX0_joined_83 : decode cX0_joined 83 = .ok (.goto 4, 3) := by decide +kernel
theorem dX0_joined_86 : decode cX0_joined 86 = .ok (.iconst 0, 1) := by decide +kernel
theorem dX0_joined_87 : decode cX0_joined 87 = .ok (.ireturn, 1) := by decide +kernel
theorem dX0_joined_88 : decode cX0_joined 88 = .ok (.iload_n 1, 1) := by decide +kernel
theorem dX0_joined_89 : decode cX0_joined 89 = .ok (.iload_n 2, 1) := by decide +kernel
theorem dX0_joined_90 : decode cX0_joined 90 = .ok (.if_icmp .ge 7, 3) := by decide +kernel
theorem dX0_joined_93 : decode cX0_joined 93 = .ok (.iconst 1, 1) := by decide +kernel
theorem dX0_joined_94 : decode cX0_joined 94 = .ok (.goto 4, 3) := by decide +kernel
theorem dX0_joined_97 : decode cX0_joined 97 = .ok (.iconst 0, 1) := by decide +kernel
theorem dX0_joined_98 : decode cX0_joined 98 = .ok (.ireturn, 1) := by decide +kernel
theorem dX0_joined_99 : decode cX0_joined 99 = .ok (.iload_n 1, 1) := by decide +kernel
theorem dX0_joined_100 : decode cX0_joined 100 = .ok (.iload_n 2, 1) := by decide +kernel
theorem dX0_joined_101 : decode cX0_joined 101 = .ok (.if_icmp .le 7, 3) := by decide +kernel
theorem dX0_joined_104 : decode cX0_joined 104 = .ok (.iconst 1, 1) := by decide +kernel
theorem dX0_joined_105 : decode cX0_joined 105 = .ok (.goto 4, 3) := by decide +kernel
theorem dX0_joined_108 : decode cX0_joined 108 = .ok (.iconst 0, 1) := by decide +kernel
theorem dX0_joined_109 : decode cX0_joined 109 = .ok (.ireturn, 1) := by decide +kernel
theorem dX0_joined_110 : decode cX0_joined 110 = .ok (.iload_n 1, 1) := by decide +kernel
theorem dX0_joined_111 : decode cX0_joined 111 = .ok (.iload_n 2, 1) := by decide +kernel
theorem dX0_joined_112 : decode cX0_joined 112 = .ok (.if_icmp .ne 7, 3) := by decide +kernel
theorem dX0_joined_115 : decode cX0_joined 115 = .ok (.iconst 1, 1) := by decide +kernel
theorem dX0_joined_116 : decode cX0_joined 116 = .ok (.goto 4, 3) := by decide +kernel
theorem dX0_joined_119 : decode cX0_joined 119 = .ok (.iconst 0, 1) := by decide +kernel
theorem dX0_joined_120 : decode cX0_joined 120 = .ok (.ireturn, 1) := by decide +kernel
theorem dX0_joined_121 : decode cX0_joined 121 = .ok (.iload_n 1, 1) := by decide +kernel
theorem dX0_joined_122 : decode cX0_joined 122 = .ok (.iload_n 2, 1) := by decide +kernel
theorem dX0_joined_123 : decode cX0_joined 123 = .ok (.iadd, 1) := by decide +kernel
theorem dX0_joined_124 : decode cX0_joined 124 = .ok (.ireturn, 1) := by decide +kernel
theorem dX0_joined_125 : decode cX0_joined 125 = .ok (.iload_n 1, 1) := by decide +kernel
theorem dX0_joined_126 : decode cX0_joined 126 = .ok (.iload_n 2, 1) := by decide +kernel
theorem dX0_joined_127 : decode cX0_joined 127 = .ok (.isub, 1) := by decide +kernel
theorem dX0_joined_128 : decode cX0_joined 128 = .ok (.ireturn, 1) := by decide +kernel
theorem dX0_joined_129 : decode cX0_joined 129 = .ok (.iload_n 1, 1) := by decide +kernel
theorem dX0_joined_130 : decode cX0_joined 130 = .ok (.iload_n 2, 1) := by decide +kernel
theorem dX0_joined_131 : decode cX0_joined 131 = .ok (.imul, 1) := by decide +kernel
theorem dX0_joined_132 : decode cX0_joined 132 = .ok (.ireturn, 1) := by decide +kernel
theorem dX0_joined_133 : decode cX0_joined 133 = .ok (.iload_n 2, 1) := by decide +kernel
theorem dX0_joined_134 : decode cX0_joined 134 = .ok (.ifCond .ne 7, 3) := by decide +kernel
theorem dX0_joined_137 : decode cX0_joined 137 = .ok (.iconst 0, 1) := by decide +kernel
theorem dX0_joined_138 : decode cX0_joined 138 = .ok (.goto 6, 3) := by decide +kernel
theorem dX0_joined_141 : decode cX0_joined 141 = .ok (.iload_n 1, 1) := by decide +kernel
theorem dX0_joined_142 : decode cX0_joined 142 = .ok (.iload_n 2, 1) := by decide +kernel
theorem dX0_joined_143 : decode cX0_joined 143 = .ok (.idiv, 1) := by decide +kernel
theorem dX0_joined_144 : decode cX0_joined 144 = .ok (.ireturn, 1) := by decide +kernel
theorem dX0_joined_145 : decode cX0_joined 145 = .ok (.iload_n 2, 1) := by decide +kernel
theorem dX0_joined_146 : decode cX0_joined 146 = .ok (.ifCond .ne 7, 3) := by decide +kernel
theorem dX0_joined_149 : decode cX0_joined 149 = .ok (.iconst 0, 1) := by decide +kernel
theorem dX0_joined_150 : decode cX0_joined 150 = .ok (.goto 6, 3) := by decide +kernel
theorem dX0_joined_153 : decode cX0_joined 153 = .ok (.iload_n 1, 1) := by decide +kernel
theorem dX0_joined_154 : decode cX0_joined 154 = .ok (.iload_n 2, 1) := by decide +kernel
theorem dX0_joined_155 : decode cX0_joined 155 = .ok (.irem, 1) := by decide +kernel
theorem dX0_joined_156 : decode cX0_joined 156 = .ok (.ireturn, 1) := by decide +kernel
theorem dX0_joined_157 : decode cX0_joined 157 = .ok (.iconst 0, 1) := by decide +kernel
theorem dX0_joined_158 : decode cX0_joined 158 = .ok (.ireturn, 1) := by decide +kernel
theorem dX1_init_0 : decode cX1_init 0 = .ok (.aload_n 0, 1) := by decide +kernel
theorem dX1_init_1 : decode cX1_init 1 = .ok (.invokespecial 3, 3) := by decide +kernel
theorem dX1_init_4 : decode cX1_init 4 = .ok (.aload_n 0, 1) := by decide +kernel
theorem dX1_init_5 : decode cX1_init 5 = .ok (.bipush 6, 2) := by decide +kernel
theorem dX1_init_7 : decode cX1_init 7 = .ok (.newarray .int, 2) := by decide +kernel
theorem dX1_init_9 : decode cX1_init 9 = .ok (.putfield 9, 3) := by decide +kernel
theorem dX1_init_12 : decode cX1_init 12 = .ok (.aload_n 0, 1) := by decide +kernel
theorem dX1_init_13 : decode cX1_init 13 = .ok (.bipush 8, 2) := by decide +kernel
theorem dX1_init_15 : decode cX1_init 15 = .ok (.newarray .long, 2) := by decide +kernel
theorem dX1_init_17 : decode cX1_init 17 = .ok (.putfield 15, 3) := by decide +kernel
theorem dX1_init_20 : decode cX1_init 20 = .ok (.aload_n 0, 1) := by decide +kernel
theorem dX1_init_21 : decode cX1_init 21 = .ok (.iconst 4, 1) := by decide +kernel
theorem dX1_init_22 : decode cX1_init 22 = .ok (.newarray .long, 2) := by decide +kernel
theorem dX1_init_24 : decode cX1_init 24 = .ok (.putfield 19, 3) := by decide +kernel
theorem dX1_init_27 : decode cX1_init 27 = .ok (.aload_n 0, 1) := by decide +kernel
theorem dX1_init_28 : decode cX1_init 28 = .ok (.new 22, 3) := by decide +kernel
theorem dX1_init_31 : decode cX1_init 31 = .ok (.dup, 1) := by decide +kernel
theorem dX1_init_32 : decode cX1_init 32 = .ok (.invokespecial 24, 3) := by decide +kernel
theorem dX1_init_35 : decode cX1_init 35 = .ok (.putfield 25, 3) := by decide +kernel
theorem dX1_init_38 : decode cX1_init 38 = .ok (.aload_n 0, 1) := by decide +kernel
theorem dX1_init_39 : decode cX1_init 39 = .ok (.invokevirtual 29, 3) := by decide +kernel
theorem dX1_init_42 : decode cX1_init 42 = .ok (.return_, 1) := by decide +kernel
theorem dX1_clear_0 : decode cX1_clear 0 = .ok (.aload_n 0, 1) := by decide +kernel
theorem dX1_clear_1 : decode cX1_clear 1 = .ok (.getfield 25, 3) := by decide +kernel
theorem dX1_clear_4 : decode cX1_clear 4 = .ok (.invokevirtual 32, 3) := by decide +kernel
theorem dX1_clear_7 : decode cX1_clear 7 = .ok (.aload_n 0, 1) := by decide +kernel
theorem dX1_clear_8 : decode cX1_clear 8 = .ok (.iconst 0, 1) := by decide +kernel
theorem dX1_clear_9 : decode cX1_clear 9 = .ok (.putfield 33, 3) := by decide +kernel
theorem dX1_clear_12 : decode cX1_clear 12 = .ok (.aload_n 0, 1) := by decide +kernel
theorem dX1_clear_13 : decode cX1_clear 13 = .ok (.iconst 0, 1) := by decide +kernel
theorem dX1_clear_14 : decode cX1_clear 14 = .ok (.putfield 37, 3) := by decide +kernel
theorem dX1_clear_17 : decode cX1_clear 17 = .ok (.aload_n 0, 1) := by decide +kernel
theorem dX1_clear_18 : decode cX1_clear 18 = .ok (.iconst 0, 1) := by decide +kernel
theorem dX1_clear_19 : decode cX1_clear 19 = .ok (.putfield 40, 3) := by decide +kernel
theorem dX1_clear_22 : decode cX1_clear 22 = .ok (.aload_n 0, 1) := by decide +kernel
theorem dX1_clear_23 : decode cX1_clear 23 = .ok (.iconst 0, 1) := by decide +kernel
theorem dX1_clear_24 : decode cX1_clear 24 = .ok (.putfield 43, 3) := by decide +kernel
theorem dX1_clear_27 : decode cX1_clear 27 = .ok (.aload_n 0, 1) := by decide +kernel
theorem dX1_clear_28 : decode cX1_clear 28 = .ok (.iconst 2, 1) := by decide +kernel
theorem dX1_clear_29 : decode cX1_clear 29 = .ok (.putfield 46, 3) := by decide +kernel
theorem dX1_clear_32 : decode cX1_clear 32 = .ok (.aload_n 0, 1) := by decide +kernel
theorem dX1_clear_33 : decode cX1_clear 33 = .ok (.iconst 0, 1) := by decide +kernel
theorem dX1_clear_34 : decode cX1_clear 34 = .ok (.putfield 49, 3) := by decide +kernel
theorem dX1_clear_37 : decode cX1_clear 37 = .ok (.aload_n 0, 1) := by decide +kernel
theorem dX1_clear_38 : decode cX1_clear 38 = .ok (.iconst 0, 1) := by decide +kernel
theorem dX1_clear_39 : decode cX1_clear 39 = .ok (.putfield 52, 3) := by decide +kernel
theorem dX1_clear_42 : decode cX1_clear 42 = .ok (.return_, 1) := by decide +kernel
theorem dX2_init_0 : decode cX2_init 0 = .ok (.aload_n 0, 1) := by decide +kernel
theorem dX2_init_1 : decode cX2_init 1 = .ok (.invokespecial 3, 3) := by decide +kernel
theorem dX2_init_4 : decode cX2_init 4 = .ok (.aload_n 0, 1) := by decide +kernel
theorem dX2_init_5 : decode cX2_init 5 = .ok (.iconst (-1), 1) := by decide +kernel
theorem dX2_init_6 : decode cX2_init 6 = .ok (.putfield 9, 3) := by decide +kernel
theorem dX2_init_9 : decode cX2_init 9 = .ok (.aload_n 0, 1) := by decide +kernel
theorem dX2_init_10 : decode cX2_init 10 = .ok (.aload_n 1, 1) := by decide +kernel
theorem dX2_init_11 : decode cX2_init 11 = .ok (.putfield 15, 3) := by decide +kernel
theorem dX2_init_14 : decode cX2_init 14 = .ok (.aload_n 0, 1) := by decide +kernel
theorem dX2_init_15 : decode cX2_init 15 = .ok (.aload_n 2, 1) := by decide +kernel
theorem dX2_init_16 : decode cX2_init 16 = .ok (.putfield 19, 3) := by decide +kernel
theorem dX2_init_19 : decode cX2_init 19 = .ok (.return_, 1) := by decide +kernel
theorem dX2_understands_0 : decode cX2_understands 0 = .ok (.aload_n 0, 1) := by decide +kernel
theorem dX2_understands_1 : decode cX2_understands 1 = .ok (.iload_n 1, 1) := by decide +kernel
theorem dX2_understands_2 : decode cX2_understands 2 = .ok (.aload_n 0, 1) := by decide +kernel
theorem dX2_understands_3 : decode cX2_understands 3 = .ok (.getfield 15, 3) := by decide +kernel
theorem dX2_understands_6 : decode cX2_understands 6 = .ok (.arraylength, 1) := by decide +kernel
theorem dX2_understands_7 : decode cX2_understands 7 = .ok (.invokestatic 23, 3) := by decide +kernel
theorem dX2_understands_10 : decode cX2_understands 10 = .ok (.putfield 29, 3) := by decide +kernel
theorem dX2_understands_13 : decode cX2_understands 13 = .ok (.aload_n 0, 1) := by decide +kernel
theorem dX2_understands_14 : decode cX2_understands 14 = .ok (.iconst 0, 1) := by decide +kernel
theorem dX2_understands_15 : decode cX2_understands 15 = .ok (.putfield 32, 3) := by decide +kernel
theorem dX2_understands_18 : decode cX2_understands 18 = .ok (.aload_n 0, 1) := by decide +kernel
theorem dX2_understands_19 : decode cX2_understands 19 = .ok (.aload_n 2, 1) := by decide +kernel
theorem dX2_understands_20 : decode cX2_understands 20 = .ok (.putfield 19, 3) := by decide +kernel
theorem dX2_understands_23 : decode cX2_understands 23 = .ok (.aload_n 0, 1) := by decide +kernel
theorem dX2_understands_24 : decode cX2_understands 24 = .ok (.getfield 19, 3) := by decide +kernel
theorem dX2_understands_27 : decode cX2_understands 27 = .ok (.invokevirtual 35, 3) := by decide +kernel
theorem dX2_understands_30 : decode cX2_understands 30 = .ok (.aload_n 0, 1) := by decide +kernel
theorem dX2_understands_31 : decode cX2_understands 31 = .ok (.iconst 0, 1) := by decide +kernel
theorem dX2_understands_32 : decode cX2_understands 32 = .ok (.putfield 40, 3) := by decide +kernel
theorem dX2_understands_35 : decode cX2_understands 35 = .ok (.aload_n 0, 1) := by decide +kernel
theorem dX2_understands_36 : decode cX2_understands 36 = .ok (.iconst 0, 1) := by decide +kernel
theorem dX2_understands_37 : decode cX2_understands 37 = .ok (.putfield 43, 3) := by decide +kernel
theorem dX2_understands_40 : decode cX2_understands 40 = .ok (.aload_n 0, 1) := by decide +kernel
theorem dX2_understands_41 : decode cX2_understands 41 = .ok (.iconst (-1), 1) := by decide +kernel
theorem dX2_understands_42 : decode cX2_understands 42 = .ok (.putfield 9, 3) := by decide +kernel
theorem dX2_understands_45 : decode cX2_understands 45 = .ok (.aload_n 0, 1) := by decide +kernel
theorem dX2_understands_46 : decode cX2_understands 46 = .ok (.invokevirtual 46, 3) := by decide +kernel
theorem dX2_understands_49 : decode cX2_understands 49 = .ok (.iconst 0, 1) := by decide +kernel
theorem dX2_understands_50 : decode cX2_understands 50 = .ok (.istore_n 3, 1) := by decide +kernel
theorem dX2_understands_51 : decode cX2_understands 51 = .ok (.iload_n 3, 1) := by decide +kernel
theorem dX2_understands_52 : decode cX2_understands 52 = .ok (.aload_n 0, 1) := by decide +kernel
theorem dX2_understands_53 : decode cX2_understands 53 = .ok (.getfield 29, 3) := by decide +kernel
theorem dX2_understands_56 : decode cX2_understands 56 = .ok (.if_icmp .gt 27, 3) := by decide +kernel
theorem dX2_understands_59 : decode cX2_understands 59 = .ok (.aload_n 0, 1) := by decide +kernel
theorem dX2_understands_60 : decode cX2_understands 60 = .ok (.invokevirtual 49, 3) := by decide +kernel
theorem dX2_understands_63 : decode cX2_understands 63 = .ok (.ifCond .eq 20, 3) := by decide +kernel
theorem dX2_understands_66 : decode cX2_understands 66 = .ok (.aload_n 0, 1) := by decide +kernel
theorem dX2_understands_67 : decode cX2_understands 67 = .ok (.getfield 53, 3) := by decide +kernel
theorem dX2_understands_70 : decode cX2_understands 70 = .ok (.ifCond .eq 13, 3) := by decide +kernel
theorem dX2_understands_73 : decode cX2_understands 73 = .ok (.aload_n 0, 1) := by decide +kernel
theorem dX2_understands_74 : decode cX2_understands 74 = .ok (.invokevirtual 56, 3) := by decide +kernel
theorem dX2_understands_77 : decode cX2_understands 77 = .ok (.iinc 3 1, 3) := by decide +kernel
theorem dX2_understands_80 : decode cX2_understands 80 = .ok (.goto (-29), 3) := by decide +kernel
theorem dX2_understands_83 : decode cX2_understands 83 = .ok (.aload_n 0, 1) := by decide +kernel
theorem dX2_understands_84 : decode cX2_understands 84 = .ok (.invokevirtual 49, 3) := by decide +kernel
theorem dX2_understands_87 : decode cX2_understands 87 = .ok (.ireturn, 1) := by decide +kernel
theorem dX2_isGood_0 : decode cX2_isGood 0 = .ok (.aload_n 0, 1) := by decide +kernel
theorem dX2_isGood_1 : decode cX2_isGood 1 = .ok (.getfield 43, 3) := by decide +kernel
theorem dX2_isGood_4 : decode cX2_isGood 4 = .ok (.ifCond .ne 7, 3) := by decide +kernel
theorem dX2_isGood_7 : decode cX2_isGood 7 = .ok (.iconst 1, 1) := by decide +kernel
theorem dX2_isGood_8 : decode cX2_isGood 8 = .ok (.goto 4, 3) := by decide +kernel
theorem dX2_isGood_11 : decode cX2_isGood 11 = .ok (.iconst 0, 1) := by decide +kernel
theorem dX2_isGood_12 : decode cX2_isGood 12 = .ok (.ireturn, 1) := by decide +kernel
theorem dX2_refuse_0 : decode cX2_refuse 0 = .ok (.aload_n 0, 1) := by decide +kernel
theorem dX2_refuse_1 : decode cX2_refuse 1 = .ok (.invokevirtual 49, 3) := by decide +kernel
theorem dX2_refuse_4 : decode cX2_refuse 4 = .ok (.ifCond .eq 28, 3) := by decide +kernel
theorem dX2_refuse_7 : decode cX2_refuse 7 = .ok (.aload_n 0, 1) := by decide +kernel
theorem dX2_refuse_8 : decode cX2_refuse 8 = .ok (.aload_n 0, 1) := by decide +kernel
theorem dX2_refuse_9 : decode cX2_refuse 9 = .ok (.getfield 53, 3) := by decide +kernel
theorem dX2_refuse_12 : decode cX2_refuse 12 = .ok (.iconst 5, 1) := by decide +kernel
theorem dX2_refuse_13 : decode cX2_refuse 13 = .ok (.if_icmp .ne 7, 3) := by decide +kernel
theorem dX2_refuse_16 : decode cX2_refuse 16 = .ok (.iconst 1, 1) := by decide +kernel
theorem dX2_refuse_17 : decode cX2_refuse 17 = .ok (.goto 4, 3) := by decide +kernel
theorem dX2_refuse_20 : decode cX2_refuse 20 = .ok (.iload_n 1, 1) := by decide +kernel
theorem dX2_refuse_21 : decode cX2_refuse 21 = .ok (.putfield 43, 3) := by decide +kernel
theorem dX2_refuse_24 : decode cX2_refuse 24 = .ok (.aload_n 0, 1) := by decide +kernel
theorem dX2_refuse_25 : decode cX2_refuse 25 = .ok (.aload_n 0, 1) := by decide +kernel
theorem dX2_refuse_26 : decode cX2_refuse 26 = .ok (.getfield 59, 3) := by decide +kernel
theorem dX2_refuse_29 : decode cX2_refuse 29 = .ok (.putfield 9, 3) := by decide +kernel
theorem dX2_refuse_32 : decode cX2_refuse 32 = .ok (.return_, 1) := by decide +kernel
theorem dX2_readLine_0 : decode cX2_readLine 0 = .ok (.aload_n 0, 1) := by decide +kernel
theorem dX2_readLine_1 : decode cX2_readLine 1 = .ok (.getfield 53, 3) := by decide +kernel
theorem dX2_readLine_4 : decode cX2_readLine 4 = .ok (.iconst 1, 1) := by decide +kernel
theorem dX2_readLine_5 : decode cX2_readLine 5 = .ok (.if_icmp .ne 10, 3) := by decide +kernel
theorem dX2_readLine_8 : decode cX2_readLine 8 = .ok (.aload_n 0, 1) := by decide +kernel
theorem dX2_readLine_9 : decode cX2_readLine 9 = .ok (.getfield 62, 3) := by decide +kernel
theorem dX2_readLine_12 : decode cX2_readLine 12 = .ok (.goto 4, 3) := by decide +kernel
theorem dX2_readLine_15 : decode cX2_readLine 15 = .ok (.iconst (-1), 1) := by decide +kernel
theorem dX2_readLine_16 : decode cX2_readLine 16 = .ok (.istore_n 1, 1) := by decide +kernel
theorem dX2_readLine_17 : decode cX2_readLine 17 = .ok (.iload_n 1, 1) := by decide +kernel
theorem dX2_readLine_18 : decode cX2_readLine 18 = .ok (.ifCond .lt 17, 3) := by decide +kernel
theorem dX2_readLine_21 : decode cX2_readLine 21 = .ok (.iload_n 1, 1) := by decide +kernel
theorem dX2_readLine_22 : decode cX2_readLine 22 = .ok (.bipush 6, 2) := by decide +kernel
theorem dX2_readLine_24 : decode cX2_readLine 24 = .ok (.if_icmp .gt 11, 3) := by decide +kernel
theorem dX2_readLine_27 : decode cX2_readLine 27 = .ok (.aload_n 0, 1) := by decide +kernel
theorem dX2_readLine_28 : decode cX2_readLine 28 = .ok (.iload_n 1, 1) := by decide +kernel
theorem dX2_readLine_29 : decode cX2_readLine 29 = .ok (.invokevirtual 65, 3) := by decide +kernel
theorem dX2_readLine_32 : decode cX2_readLine 32 = .ok (.ifCond .eq 9, 3) := by decide +kernel
theorem dX2_readLine_35 : decode cX2_readLine 35 = .ok (.aload_n 0, 1) := by decide +kernel
theorem dX2_readLine_36 : decode cX2_readLine 36 = .ok (.iconst 2, 1) := by decide +kernel
theorem dX2_readLine_37 : decode cX2_readLine 37 = .ok (.invokevirtual 69, 3) := by decide +kernel
theorem dX2_readLine_40 : decode cX2_readLine 40 = .ok (.return_, 1) := by decide +kernel
theorem dX2_readLine_41 : decode cX2_readLine 41 = .ok (.aload_n 0, 1) := by decide +kernel
theorem dX2_readLine_42 : decode cX2_readLine 42 = .ok (.dup, 1) := by decide +kernel
theorem dX2_readLine_43 : decode cX2_readLine 43 = .ok (.getfield 40, 3) := by decide +kernel
theorem dX2_readLine_46 : decode cX2_readLine 46 = .ok (.iconst 1, 1) := by decide +kernel
theorem dX2_readLine_47 : decode cX2_readLine 47 = .ok (.iload_n 1, 1) := by decide +kernel
theorem dX2_readLine_48 : decode cX2_readLine 48 = .ok (.ishl, 1) := by decide +kernel
theorem dX2_readLine_49 : decode cX2_readLine 49 = .ok (.ior, 1) := by decide +kernel
theorem dX2_readLine_50 : decode cX2_readLine 50 = .ok (.putfield 40, 3) := by decide +kernel
theorem dX2_readLine_53 : decode cX2_readLine 53 = .ok (.aload_n 0, 1) := by decide +kernel
theorem dX2_readLine_54 : decode cX2_readLine 54 = .ok (.invokevirtual 46, 3) := by decide +kernel
theorem dX2_readLine_57 : decode cX2_readLine 57 = .ok (.iload_n 1, 1) := by decide +kernel
theorem dX2_readLine_58 : decode cX2_readLine 58 = .ok (.iconst 3, 1) := by decide +kernel
theorem dX2_readLine_59 : decode cX2_readLine 59 = .ok (.if_icmp .ne 11, 3) := by decide +kernel
theorem dX2_readLine_62 : decode cX2_readLine 62 = .ok (.aload_n 0, 1) := by decide +kernel
theorem dX2_readLine_63 : decode cX2_readLine 63 = .ok (.iconst 0, 1) := by decide +kernel
theorem dX2_readLine_64 : decode cX2_readLine 64 = .ok (.invokevirtual 73, 3) := by decide +kernel
theorem dX2_readLine_67 : decode cX2_readLine 67 = .ok (.goto 21, 3) := by decide +kernel
theorem dX2_readLine_70 : decode cX2_readLine 70 = .ok (.iload_n 1, 1) := by decide +kernel
theorem dX2_readLine_71 : decode cX2_readLine 71 = .ok (.iconst 2, 1) := by decide +kernel
theorem dX2_readLine_72 : decode cX2_readLine 72 = .ok (.if_icmp .gt 11, 3) := by decide +kernel
theorem dX2_readLine_75 : decode cX2_readLine 75 = .ok (.aload_n 0, 1) := by decide +kernel
theorem dX2_readLine_76 : decode cX2_readLine 76 = .ok (.iload_n 1, 1) := by decide +kernel
theorem dX2_readLine_77 : decode cX2_readLine 77 = .ok (.invokevirtual 76, 3) := by decide +kernel
theorem dX2_readLine_80 : decode cX2_readLine 80 = .ok (.goto 8, 3) := by decide +kernel
theorem dX2_readLine_83 : decode cX2_readLine 83 = .ok (.aload_n 0, 1) := by decide +kernel
theorem dX2_readLine_84 : decode cX2_readLine 84 = .ok (.iload_n 1, 1) := by decide +kernel
theorem dX2_readLine_85 : decode cX2_readLine 85 = .ok (.invokevirtual 79, 3) := by decide +kernel
theorem dX2_readLine_88 : decode cX2_readLine 88 = .ok (.aload_n 0, 1) := by decide +kernel
theorem dX2_readLine_89 : decode cX2_readLine 89 = .ok (.invokevirtual 49, 3) := by decide +kernel
theorem dX2_readLine_92 : decode cX2_readLine 92 = .ok (.ifCond .eq 17, 3) := by decide +kernel
theorem dX2_readLine_95 : decode cX2_readLine 95 = .ok (.aload_n 0, 1) := by decide +kernel
theorem dX2_readLine_96 : decode cX2_readLine 96 = .ok (.bipush 59, 2) := by decide +kernel
theorem dX2_readLine_98 : decode cX2_readLine 98 = .ok (.invokevirtual 82, 3) := by decide +kernel
theorem dX2_readLine_101 : decode cX2_readLine 101 = .ok (.ifCond .ne 8, 3) := by decide +kernel
theorem dX2_readLine_104 : decode cX2_readLine 104 = .ok (.aload_n 0, 1) := by decide +kernel
theorem dX2_readLine_105 : decode cX2_readLine 105 = .ok (.iconst 2, 1) := by decide +kernel
theorem dX2_readLine_106 : decode cX2_readLine 106 = .ok (.invokevirtual 69, 3) := by decide +kernel
theorem dX2_readLine_109 : decode cX2_readLine 109 = .ok (.aload_n 0, 1) := by decide +kernel
theorem dX2_readLine_110 : decode cX2_readLine 110 = .ok (.invokevirtual 49, 3) := by decide +kernel
theorem dX2_readLine_113 : decode cX2_readLine 113 = .ok (.ifCond .eq 7, 3) := by decide +kernel
theorem dX2_readLine_116 : decode cX2_readLine 116 = .ok (.aload_n 0, 1) := by decide +kernel
theorem dX2_readLine_117 : decode cX2_readLine 117 = .ok (.invokevirtual 46, 3) := by decide +kernel
theorem dX2_readLine_120 : decode cX2_readLine 120 = .ok (.return_, 1) := by decide +kernel
theorem dX2_isOneTooMany_0 : decode cX2_isOneTooMany 0 = .ok (.iload_n 1, 1) := by decide +kernel
theorem dX2_isOneTooMany_1 : decode cX2_isOneTooMany 1 = .ok (.tableswitch 92 0 2 #[27, 57, 75], 27) := by decide +kernel
theorem dX2_isOneTooMany_28 : decode cX2_isOneTooMany 28 = .ok (.aload_n 0, 1) := by decide +kernel
theorem dX2_isOneTooMany_29 : decode cX2_isOneTooMany 29 = .ok (.getfield 19, 3) := by decide +kernel
theorem dX2_isOneTooMany_32 : decode cX2_isOneTooMany 32 = .ok (.getfield 86, 3) := by decide +kernel
theorem dX2_isOneTooMany_35 : decode cX2_isOneTooMany 35 = .ok (.bipush 8, 2) := by decide +kernel
theorem dX2_isOneTooMany_37 : decode cX2_isOneTooMany 37 = .ok (.if_icmp .ge 15, 3) := by decide +kernel
theorem dX2_isOneTooMany_40 : decode cX2_isOneTooMany 40 = .ok (.aload_n 0, 1) := by decide +kernel
theorem dX2_isOneTooMany_41 : decode cX2_isOneTooMany 41 = .ok (.getfield 19, 3) := by decide +kernel
theorem dX2_isOneTooMany_44 : decode cX2_isOneTooMany 44 = .ok (.getfield 89, 3) := by decide +kernel
theorem dX2_isOneTooMany_47 : decode cX2_isOneTooMany 47 = .ok (.bipush 6, 2) := by decide +kernel
theorem dX2_isOneTooMany_49 : decode cX2_isOneTooMany 49 = .ok (.if_icmp .lt 7, 3) := by decide +kernel
theorem dX2_isOneTooMany_52 : decode cX2_isOneTooMany 52 = .ok (.iconst 1, 1) := by decide +kernel
theorem dX2_isOneTooMany_53 : decode cX2_isOneTooMany 53 = .ok (.goto 4, 3) := by decide +kernel
theorem dX2_isOneTooMany_56 : decode cX2_isOneTooMany 56 = .ok (.iconst 0, 1) := by decide +kernel
theorem dX2_isOneTooMany_57 : decode cX2_isOneTooMany 57 = .ok (.ireturn, 1) := by decide +kernel
theorem dX2_isOneTooMany_58 : decode cX2_isOneTooMany 58 = .ok (.aload_n 0, 1) := by decide +kernel
theorem dX2_isOneTooMany_59 : decode cX2_isOneTooMany 59 = .ok (.getfield 19, 3) := by decide +kernel
theorem dX2_isOneTooMany_62 : decode cX2_isOneTooMany 62 = .ok (.getfield 86, 3) := by decide +kernel
theorem dX2_isOneTooMany_65 : decode cX2_isOneTooMany 65 = .ok (.bipush 8, 2) := by decide +kernel
theorem dX2_isOneTooMany_67 : decode cX2_isOneTooMany 67 = .ok (.if_icmp .lt 7, 3) := by decide +kernel
theorem dX2_isOneTooMany_70 : decode cX2_isOneTooMany 70 = .ok (.iconst 1, 1) := by decide +kernel
theorem dX2_isOneTooMany_71 : decode cX2_isOneTooMany 71 = .ok (.goto 4, 3) := by decide +kernel
theorem dX2_isOneTooMany_74 : decode cX2_isOneTooMany 74 = .ok (.iconst 0, 1) := by decide +kernel
theorem dX2_isOneTooMany_75 : decode cX2_isOneTooMany 75 = .ok (.ireturn, 1) := by decide +kernel
theorem dX2_isOneTooMany_76 : decode cX2_isOneTooMany 76 = .ok (.aload_n 0, 1) := by decide +kernel
theorem dX2_isOneTooMany_77 : decode cX2_isOneTooMany 77 = .ok (.getfield 19, 3) := by decide +kernel
theorem dX2_isOneTooMany_80 : decode cX2_isOneTooMany 80 = .ok (.getfield 92, 3) := by decide +kernel
theorem dX2_isOneTooMany_83 : decode cX2_isOneTooMany 83 = .ok (.iconst 4, 1) := by decide +kernel
theorem dX2_isOneTooMany_84 : decode cX2_isOneTooMany 84 = .ok (.if_icmp .lt 7, 3) := by decide +kernel
theorem dX2_isOneTooMany_87 : decode cX2_isOneTooMany 87 = .ok (.iconst 1, 1) := by decide +kernel
theorem dX2_isOneTooMany_88 : decode cX2_isOneTooMany 88 = .ok (.goto 4, 3) := by decide +kernel
theorem dX2_isOneTooMany_91 : decode cX2_isOneTooMany 91 = .ok (.iconst 0, 1) := by decide +kernel
theorem dX2_isOneTooMany_92 : decode cX2_isOneTooMany 92 = .ok (.ireturn, 1) := by decide +kernel
theorem dX2_isOneTooMany_93 : decode cX2_isOneTooMany 93 = .ok (.aload_n 0, 1) := by decide +kernel
theorem dX2_isOneTooMany_94 : decode cX2_isOneTooMany 94 = .ok (.getfield 40, 3) := by decide +kernel
theorem dX2_isOneTooMany_97 : decode cX2_isOneTooMany 97 = .ok (.iload_n 1, 1) := by decide +kernel
theorem dX2_isOneTooMany_98 : decode cX2_isOneTooMany 98 = .ok (.ishr, 1) := by decide +kernel
theorem dX2_isOneTooMany_99 : decode cX2_isOneTooMany 99 = .ok (.iconst 1, 1) := by decide +kernel
theorem dX2_isOneTooMany_100 : decode cX2_isOneTooMany 100 = .ok (.iand, 1) := by decide +kernel
theorem dX2_isOneTooMany_101 : decode cX2_isOneTooMany 101 = .ok (.iconst 1, 1) := by decide +kernel
theorem dX2_isOneTooMany_102 : decode cX2_isOneTooMany 102 = .ok (.if_icmp .ne 7, 3) := by decide +kernel
theorem dX2_isOneTooMany_105 : decode cX2_isOneTooMany 105 = .ok (.iconst 1, 1) := by decide +kernel
theorem dX2_isOneTooMany_106 : decode cX2_isOneTooMany 106 = .ok (.goto 4, 3) := by decide +kernel
theorem dX2_isOneTooMany_109 : decode cX2_isOneTooMany 109 = .ok (.iconst 0, 1) := by decide +kernel
theorem dX2_isOneTooMany_110 : decode cX2_isOneTooMany 110 = .ok (.ireturn, 1) := by decide +kernel
theorem dX2_readName_0 : decode cX2_readName 0 = .ok (.aload_n 0, 1) := by decide +kernel
theorem dX2_readName_1 : decode cX2_readName 1 = .ok (.getfield 53, 3) := by decide +kernel
theorem dX2_readName_4 : decode cX2_readName 4 = .ok (.iconst 2, 1) := by decide +kernel
theorem dX2_readName_5 : decode cX2_readName 5 = .ok (.if_icmp .eq 9, 3) := by decide +kernel
theorem dX2_readName_8 : decode cX2_readName 8 = .ok (.aload_n 0, 1) := by decide +kernel
theorem dX2_readName_9 : decode cX2_readName 9 = .ok (.iconst 2, 1) := by decide +kernel
theorem dX2_readName_10 : decode cX2_readName 10 = .ok (.invokevirtual 69, 3) := by decide +kernel
theorem dX2_readName_13 : decode cX2_readName 13 = .ok (.return_, 1) := by decide +kernel
theorem dX2_readName_14 : decode cX2_readName 14 = .ok (.iload_n 1, 1) := by decide +kernel
theorem dX2_readName_15 : decode cX2_readName 15 = .ok (.iconst 2, 1) := by decide +kernel
theorem dX2_readName_16 : decode cX2_readName 16 = .ok (.if_icmp .ne 7, 3) := by decide +kernel
theorem dX2_readName_19 : decode cX2_readName 19 = .ok (.iconst 1, 1) := by decide +kernel
theorem dX2_readName_20 : decode cX2_readName 20 = .ok (.goto 4, 3) := by decide +kernel
theorem dX2_readName_23 : decode cX2_readName 23 = .ok (.iconst 0, 1) := by decide +kernel
theorem dX2_readName_24 : decode cX2_readName 24 = .ok (.istore_n 2, 1) := by decide +kernel
theorem dX2_readName_25 : decode cX2_readName 25 = .ok (.aload_n 0, 1) := by decide +kernel
theorem dX2_readName_26 : decode cX2_readName 26 = .ok (.iload_n 2, 1) := by decide +kernel
theorem dX2_readName_27 : decode cX2_readName 27 = .ok (.ifCond .eq 13, 3) := by decide +kernel
theorem dX2_readName_30 : decode cX2_readName 30 = .ok (.aload_n 0, 1) := by decide +kernel
theorem dX2_readName_31 : decode cX2_readName 31 = .ok (.getfield 19, 3) := by decide +kernel
theorem dX2_readName_34 : decode cX2_readName 34 = .ok (.getfield 95, 3) := by decide +kernel
theorem dX2_readName_37 : decode cX2_readName 37 = .ok (.goto 10, 3) := by decide +kernel
theorem dX2_readName_40 : decode cX2_readName 40 = .ok (.aload_n 0, 1) := by decide +kernel
theorem dX2_readName_41 : decode cX2_readName 41 = .ok (.getfield 19, 3) := by decide +kernel
theorem dX2_readName_44 : decode cX2_readName 44 = .ok (.getfield 99, 3) := by decide +kernel
theorem dX2_readName_47 : decode cX2_readName 47 = .ok (.iload_n 2, 1) := by decide +kernel
theorem dX2_readName_48 : decode cX2_readName 48 = .ok (.ifCond .eq 13, 3) := by decide +kernel
theorem dX2_readName_51 : decode cX2_readName 51 = .ok (.aload_n 0, 1) := by decide +kernel
theorem dX2_readName_52 : decode cX2_readName 52 = .ok (.getfield 19, 3) := by decide +kernel
theorem dX2_readName_55 : decode cX2_readName 55 = .ok (.getfield 92, 3) := by decide +kernel
theorem dX2_readName_58 : decode cX2_readName 58 = .ok (.goto 10, 3) := by decide +kernel
theorem dX2_readName_61 : decode cX2_readName 61 = .ok (.aload_n 0, 1) := by decide +kernel
theorem dX2_readName_62 : decode cX2_readName 62 = .ok (.getfield 19, 3) := by decide +kernel
theorem dX2_readName_65 : decode cX2_readName 65 = .ok (.getfield 86, 3) := by decide +kernel
theorem dX2_readName_68 : decode cX2_readName 68 = .ok (.invokevirtual 102, 3) := by decide +kernel
theorem dX2_readName_71 : decode cX2_readName 71 = .ok (.ifCond .eq 9, 3) := by decide +kernel
theorem dX2_readName_74 : decode cX2_readName 74 = .ok (.aload_n 0, 1) := by decide +kernel
theorem dX2_readName_75 : decode cX2_readName 75 = .ok (.iconst 3, 1) := by decide +kernel
theorem dX2_readName_76 : decode cX2_readName 76 = .ok (.invokevirtual 69, 3) := by decide +kernel
theorem dX2_readName_79 : decode cX2_readName 79 = .ok (.return_, 1) := by decide +kernel
theorem dX2_readName_80 : decode cX2_readName 80 = .ok (.iload_n 2, 1) := by decide +kernel
theorem dX2_readName_81 : decode cX2_readName 81 = .ok (.ifCond .eq 38, 3) := by decide +kernel
theorem dX2_readName_84 : decode cX2_readName 84 = .ok (.aload_n 0, 1) := by decide +kernel
theorem dX2_readName_85 : decode cX2_readName 85 = .ok (.getfield 19, 3) := by decide +kernel
theorem dX2_readName_88 : decode cX2_readName 88 = .ok (.getfield 95, 3) := by decide +kernel
theorem dX2_readName_91 : decode cX2_readName 91 = .ok (.aload_n 0, 1) := by decide +kernel
theorem dX2_readName_92 : decode cX2_readName 92 = .ok (.getfield 19, 3) := by decide +kernel
theorem dX2_readName_95 : decode cX2_readName 95 = .ok (.getfield 92, 3) := by decide +kernel
theorem dX2_readName_98 : decode cX2_readName 98 = .ok (.aload_n 0, 1) := by decide +kernel
theorem dX2_readName_99 : decode cX2_readName 99 = .ok (.getfield 106, 3) := by decide +kernel
theorem dX2_readName_102 : decode cX2_readName 102 = .ok (.lastore, 1) := by decide +kernel
theorem dX2_readName_103 : decode cX2_readName 103 = .ok (.aload_n 0, 1) := by decide +kernel
theorem dX2_readName_104 : decode cX2_readName 104 = .ok (.getfield 19, 3) := by decide +kernel
theorem dX2_readName_107 : decode cX2_readName 107 = .ok (.dup, 1) := by decide +kernel
theorem dX2_readName_108 : decode cX2_readName 108 = .ok (.getfield 92, 3) := by decide +kernel
theorem dX2_readName_111 : decode cX2_readName 111 = .ok (.iconst 1, 1) := by decide +kernel
theorem dX2_readName_112 : decode cX2_readName 112 = .ok (.iadd, 1) := by decide +kernel
theorem dX2_readName_113 : decode cX2_readName 113 = .ok (.putfield 92, 3) := by decide +kernel
theorem dX2_readName_116 : decode cX2_readName 116 = .ok (.goto 74, 3) := by decide +kernel
theorem dX2_readName_119 : decode cX2_readName 119 = .ok (.iload_n 1, 1) := by decide +kernel
theorem dX2_readName_120 : decode cX2_readName 120 = .ok (.ifCond .ne 38, 3) := by decide +kernel
theorem dX2_readName_123 : decode cX2_readName 123 = .ok (.aload_n 0, 1) := by decide +kernel
theorem dX2_readName_124 : decode cX2_readName 124 = .ok (.getfield 19, 3) := by decide +kernel
theorem dX2_readName_127 : decode cX2_readName 127 = .ok (.getfield 110, 3) := by decide +kernel
theorem dX2_readName_130 : decode cX2_readName 130 = .ok (.aload_n 0, 1) := by decide +kernel
theorem dX2_readName_131 : decode cX2_readName 131 = .ok (.getfield 19, 3) := by decide +kernel
theorem dX2_readName_134 : decode cX2_readName 134 = .ok (.getfield 89, 3) := by decide +kernel
theorem dX2_readName_137 : decode cX2_readName 137 = .ok (.aload_n 0, 1) := by decide +kernel
theorem dX2_readName_138 : decode cX2_readName 138 = .ok (.getfield 19, 3) := by decide +kernel
theorem dX2_readName_141 : decode cX2_readName 141 = .ok (.getfield 86, 3) := by decide +kernel
theorem dX2_readName_144 : decode cX2_readName 144 = .ok (.iastore, 1) := by decide +kernel
theorem dX2_readName_145 : decode cX2_readName 145 = .ok (.aload_n 0, 1) := by decide +kernel
theorem dX2_readName_146 : decode cX2_readName 146 = .ok (.getfield 19, 3) := by decide +kernel
theorem dX2_readName_149 : decode cX2_readName 149 = .ok (.dup, 1) := by decide +kernel
theorem dX2_readName_150 : decode cX2_readName 150 = .ok (.getfield 89, 3) := by decide +kernel
theorem dX2_readName_153 : decode cX2_readName 153 = .ok (.iconst 1, 1) := by decide +kernel
theorem dX2_readName_154 : decode cX2_readName 154 = .ok (.iadd, 1) := by decide +kernel
theorem dX2_readName_155 : decode cX2_readName 155 = .ok (.putfield 89, 3) := by decide +kernel
theorem dX2_readName_158 : decode cX2_readName 158 = .ok (.aload_n 0, 1) := by decide +kernel
theorem dX2_readName_159 : decode cX2_readName 159 = .ok (.getfield 19, 3) := by decide +kernel
theorem dX2_readName_162 : decode cX2_readName 162 = .ok (.getfield 99, 3) := by decide +kernel
theorem dX2_readName_165 : decode cX2_readName 165 = .ok (.aload_n 0, 1) := by decide +kernel
theorem dX2_readName_166 : decode cX2_readName 166 = .ok (.getfield 19, 3) := by decide +kernel
theorem dX2_readName_169 : decode cX2_readName 169 = .ok (.getfield 86, 3) := by decide +kernel
theorem dX2_readName_172 : decode cX2_readName 172 = .ok (.aload_n 0, 1) := by decide +kernel
theorem dX2_readName_173 : decode cX2_readName 173 = .ok (.getfield 106, 3) := by decide +kernel
theorem dX2_readName_176 : decode cX2_readName 176 = .ok (.lastore, 1) := by decide +kernel
theorem dX2_readName_177 : decode cX2_readName 177 = .ok (.aload_n 0, 1) := by decide +kernel
theorem dX2_readName_178 : decode cX2_readName 178 = .ok (.getfield 19, 3) := by decide +kernel
theorem dX2_readName_181 : decode cX2_readName 181 = .ok (.dup, 1) := by decide +kernel
theorem dX2_readName_182 : decode cX2_readName 182 = .ok (.getfield 86, 3) := by decide +kernel
theorem dX2_readName_185 : decode cX2_readName 185 = .ok (.iconst 1, 1) := by decide +kernel
theorem dX2_readName_186 : decode cX2_readName 186 = .ok (.iadd, 1) := by decide +kernel
theorem dX2_readName_187 : decode cX2_readName 187 = .ok (.putfield 86, 3) := by decide +kernel
theorem dX2_readName_190 : decode cX2_readName 190 = .ok (.aload_n 0, 1) := by decide +kernel
theorem dX2_readName_191 : decode cX2_readName 191 = .ok (.invokevirtual 46, 3) := by decide +kernel
theorem dX2_readName_194 : decode cX2_readName 194 = .ok (.return_, 1) := by decide +kernel
theorem dX2_isTold_0 : decode cX2_isTold 0 = .ok (.iconst 0, 1) := by decide +kernel
theorem dX2_isTold_1 : decode cX2_isTold 1 = .ok (.istore_n 3, 1) := by decide +kernel
theorem dX2_isTold_2 : decode cX2_isTold 2 = .ok (.iload_n 3, 1) := by decide +kernel
theorem dX2_isTold_3 : decode cX2_isTold 3 = .ok (.iload_n 2, 1) := by decide +kernel
theorem dX2_isTold_4 : decode cX2_isTold 4 = .ok (.if_icmp .ge 28, 3) := by decide +kernel
theorem dX2_isTold_7 : decode cX2_isTold 7 = .ok (.iload_n 3, 1) := by decide +kernel
theorem dX2_isTold_8 : decode cX2_isTold 8 = .ok (.aload_n 1, 1) := by decide +kernel
theorem dX2_isTold_9 : decode cX2_isTold 9 = .ok (.arraylength, 1) := by decide +kernel
theorem dX2_isTold_10 : decode cX2_isTold 10 = .ok (.if_icmp .ge 22, 3) := by decide +kernel
theorem dX2_isTold_13 : decode cX2_isTold 13 = .ok (.aload_n 1, 1) := by decide +kernel
theorem dX2_isTold_14 : decode cX2_isTold 14 = .ok (.iload_n 3, 1) := by decide +kernel
theorem dX2_isTold_15 : decode cX2_isTold 15 = .ok (.laload, 1) := by decide +kernel
theorem dX2_isTold_16 : decode cX2_isTold 16 = .ok (.aload_n 0, 1) := by decide +kernel
theorem dX2_isTold_17 : decode cX2_isTold 17 = .ok (.getfield 106, 3) := by decide +kernel
theorem dX2_isTold_20 : decode cX2_isTold 20 = .ok (.lcmp, 1) := by decide +kernel
theorem dX2_isTold_21 : decode cX2_isTold 21 = .ok (.ifCond .ne 5, 3) := by decide +kernel
theorem dX2_isTold_24 : decode cX2_isTold 24 = .ok (.iconst 1, 1) := by decide +kernel
theorem dX2_isTold_25 : decode cX2_isTold 25 = .ok (.ireturn, 1) := by decide +kernel
theorem dX2_isTold_26 : decode cX2_isTold 26 = .ok (.iinc 3 1, 3) := by decide +kernel
theorem dX2_isTold_29 : decode cX2_isTold 29 = .ok (.goto (-27), 3) := by decide +kernel
theorem dX2_isTold_32 : decode cX2_isTold 32 = .ok (.iconst 0, 1) := by decide +kernel
theorem dX2_isTold_33 : decode cX2_isTold 33 = .ok (.ireturn, 1) := by decide +kernel
theorem dX2_readSetting_0 : decode cX2_readSetting 0 = .ok (.aload_n 0, 1) := by decide +kernel
theorem dX2_readSetting_1 : decode cX2_readSetting 1 = .ok (.getfield 53, 3) := by decide +kernel
theorem dX2_readSetting_4 : decode cX2_readSetting 4 = .ok (.iconst 3, 1) := by decide +kernel
theorem dX2_readSetting_5 : decode cX2_readSetting 5 = .ok (.if_icmp .eq 11, 3) := by decide +kernel
theorem dX2_readSetting_8 : decode cX2_readSetting 8 = .ok (.aload_n 0, 1) := by decide +kernel
theorem dX2_readSetting_9 : decode cX2_readSetting 9 = .ok (.iconst 2, 1) := by decide +kernel
theorem dX2_readSetting_10 : decode cX2_readSetting 10 = .ok (.invokevirtual 69, 3) := by decide +kernel
theorem dX2_readSetting_13 : decode cX2_readSetting 13 = .ok (.goto 74, 3) := by decide +kernel
theorem dX2_readSetting_16 : decode cX2_readSetting 16 = .ok (.iload_n 1, 1) := by decide +kernel
theorem dX2_readSetting_17 : decode cX2_readSetting 17 = .ok (.iconst 4, 1) := by decide +kernel
theorem dX2_readSetting_18 : decode cX2_readSetting 18 = .ok (.if_icmp .ne 24, 3) := by decide +kernel
theorem dX2_readSetting_21 : decode cX2_readSetting 21 = .ok (.aload_n 0, 1) := by decide +kernel
theorem dX2_readSetting_22 : decode cX2_readSetting 22 = .ok (.getfield 19, 3) := by decide +kernel
theorem dX2_readSetting_25 : decode cX2_readSetting 25 = .ok (.aload_n 0, 1) := by decide +kernel
theorem dX2_readSetting_26 : decode cX2_readSetting 26 = .ok (.getfield 62, 3) := by decide +kernel
theorem dX2_readSetting_29 : decode cX2_readSetting 29 = .ok (.putfield 114, 3) := by decide +kernel
theorem dX2_readSetting_32 : decode cX2_readSetting 32 = .ok (.aload_n 0, 1) := by decide +kernel
theorem dX2_readSetting_33 : decode cX2_readSetting 33 = .ok (.iconst 1, 1) := by decide +kernel
theorem dX2_readSetting_34 : decode cX2_readSetting 34 = .ok (.bipush 9, 2) := by decide +kernel
theorem dX2_readSetting_36 : decode cX2_readSetting 36 = .ok (.invokevirtual 117, 3) := by decide +kernel
theorem dX2_readSetting_39 : decode cX2_readSetting 39 = .ok (.goto 48, 3) := by decide +kernel
theorem dX2_readSetting_42 : decode cX2_readSetting 42 = .ok (.iload_n 1, 1) := by decide +kernel
theorem dX2_readSetting_43 : decode cX2_readSetting 43 = .ok (.iconst 5, 1) := by decide +kernel
theorem dX2_readSetting_44 : decode cX2_readSetting 44 = .ok (.if_icmp .ne 24, 3) := by decide +kernel
theorem dX2_readSetting_47 : decode cX2_readSetting 47 = .ok (.aload_n 0, 1) := by decide +kernel
theorem dX2_readSetting_48 : decode cX2_readSetting 48 = .ok (.getfield 19, 3) := by decide +kernel
theorem dX2_readSetting_51 : decode cX2_readSetting 51 = .ok (.aload_n 0, 1) := by decide +kernel
theorem dX2_readSetting_52 : decode cX2_readSetting 52 = .ok (.getfield 62, 3) := by decide +kernel
theorem dX2_readSetting_55 : decode cX2_readSetting 55 = .ok (.putfield 121, 3) := by decide +kernel
theorem dX2_readSetting_58 : decode cX2_readSetting 58 = .ok (.aload_n 0, 1) := by decide +kernel
theorem dX2_readSetting_59 : decode cX2_readSetting 59 = .ok (.iconst 0, 1) := by decide +kernel
theorem dX2_readSetting_60 : decode cX2_readSetting 60 = .ok (.bipush 100, 2) := by decide +kernel
theorem dX2_readSetting_62 : decode cX2_readSetting 62 = .ok (.invokevirtual 117, 3) := by decide +kernel
theorem dX2_readSetting_65 : decode cX2_readSetting 65 = .ok (.goto 22, 3) := by decide +kernel
theorem dX2_readSetting_68 : decode cX2_readSetting 68 = .ok (.aload_n 0, 1) := by decide +kernel
theorem dX2_readSetting_69 : decode cX2_readSetting 69 = .ok (.getfield 19, 3) := by decide +kernel
theorem dX2_readSetting_72 : decode cX2_readSetting 72 = .ok (.aload_n 0, 1) := by decide +kernel
theorem dX2_readSetting_73 : decode cX2_readSetting 73 = .ok (.getfield 62, 3) := by decide +kernel
theorem dX2_readSetting_76 : decode cX2_readSetting 76 = .ok (.putfield 124, 3) := by decide +kernel
theorem dX2_readSetting_79 : decode cX2_readSetting 79 = .ok (.aload_n 0, 1) := by decide +kernel
theorem dX2_readSetting_80 : decode cX2_readSetting 80 = .ok (.iconst 0, 1) := by decide +kernel
theorem dX2_readSetting_81 : decode cX2_readSetting 81 = .ok (.sipush 999, 3) := by decide +kernel
theorem dX2_readSetting_84 : decode cX2_readSetting 84 = .ok (.invokevirtual 117, 3) := by decide +kernel
theorem dX2_readSetting_87 : decode cX2_readSetting 87 = .ok (.return_, 1) := by decide +kernel
theorem dX2_checkNumber_0 : decode cX2_checkNumber 0 = .ok (.aload_n 0, 1) := by decide +kernel
theorem dX2_checkNumber_1 : decode cX2_checkNumber 1 = .ok (.getfield 62, 3) := by decide +kernel
theorem dX2_checkNumber_4 : decode cX2_checkNumber 4 = .ok (.iload_n 1, 1) := by decide +kernel
theorem dX2_checkNumber_5 : decode cX2_checkNumber 5 = .ok (.if_icmp .lt 11, 3) := by decide +kernel
theorem dX2_checkNumber_8 : decode cX2_checkNumber 8 = .ok (.aload_n 0, 1) := by decide +kernel
theorem dX2_checkNumber_9 : decode cX2_checkNumber 9 = .ok (.getfield 62, 3) := by decide +kernel
theorem dX2_checkNumber_12 : decode cX2_checkNumber 12 = .ok (.iload_n 2, 1) := by decide +kernel
theorem dX2_checkNumber_13 : decode cX2_checkNumber 13 = .ok (.if_icmp .le 11, 3) := by decide +kernel
theorem dX2_checkNumber_16 : decode cX2_checkNumber 16 = .ok (.aload_n 0, 1) := by decide +kernel
theorem dX2_checkNumber_17 : decode cX2_checkNumber 17 = .ok (.iconst 4, 1) := by decide +kernel
theorem dX2_checkNumber_18 : decode cX2_checkNumber 18 = .ok (.invokevirtual 69, 3) := by decide +kernel
theorem dX2_checkNumber_21 : decode cX2_checkNumber 21 = .ok (.goto 7, 3) := by decide +kernel
theorem dX2_checkNumber_24 : decode cX2_checkNumber 24 = .ok (.aload_n 0, 1) := by decide +kernel
theorem dX2_checkNumber_25 : decode cX2_checkNumber 25 = .ok (.invokevirtual 46, 3) := by decide +kernel
theorem dX2_checkNumber_28 : decode cX2_checkNumber 28 = .ok (.return_, 1) := by decide +kernel
theorem dX2_readEither_0 : decode cX2_readEither 0 = .ok (.aload_n 0, 1) := by decide +kernel
theorem dX2_readEither_1 : decode cX2_readEither 1 = .ok (.iload_n 1, 1) := by decide +kernel
theorem dX2_readEither_2 : decode cX2_readEither 2 = .ok (.invokevirtual 127, 3) := by decide +kernel
theorem dX2_readEither_5 : decode cX2_readEither 5 = .ok (.iconst 0, 1) := by decide +kernel
theorem dX2_readEither_6 : decode cX2_readEither 6 = .ok (.istore_n 2, 1) := by decide +kernel
theorem dX2_readEither_7 : decode cX2_readEither 7 = .ok (.iload_n 2, 1) := by decide +kernel
theorem dX2_readEither_8 : decode cX2_readEither 8 = .ok (.bipush 30, 2) := by decide +kernel
theorem dX2_readEither_10 : decode cX2_readEither 10 = .ok (.if_icmp .ge 45, 3) := by decide +kernel
theorem dX2_readEither_13 : decode cX2_readEither 13 = .ok (.aload_n 0, 1) := by decide +kernel
theorem dX2_readEither_14 : decode cX2_readEither 14 = .ok (.invokevirtual 49, 3) := by decide +kernel
theorem dX2_readEither_17 : decode cX2_readEither 17 = .ok (.ifCond .eq 38, 3) := by decide +kernel
theorem dX2_readEither_20 : decode cX2_readEither 20 = .ok (.aload_n 0, 1) := by decide +kernel
theorem dX2_readEither_21 : decode cX2_readEither 21 = .ok (.bipush 13, 2) := by decide +kernel
theorem dX2_readEither_23 : decode cX2_readEither 23 = .ok (.invokevirtual 130, 3) := by decide +kernel
theorem dX2_readEither_26 : decode cX2_readEither 26 = .ok (.ifCond .eq 29, 3) := by decide +kernel
theorem dX2_readEither_29 : decode cX2_readEither 29 = .ok (.aload_n 0, 1) := by decide +kernel
theorem dX2_readEither_30 : decode cX2_readEither 30 = .ok (.invokevirtual 46, 3) := by decide +kernel
theorem dX2_readEither_33 : decode cX2_readEither 33 = .ok (.aload_n 0, 1) := by decide +kernel
theorem dX2_readEither_34 : decode cX2_readEither 34 = .ok (.iload_n 1, 1) := by decide +kernel
theorem dX2_readEither_35 : decode cX2_readEither 35 = .ok (.invokevirtual 127, 3) := by decide +kernel
theorem dX2_readEither_38 : decode cX2_readEither 38 = .ok (.aload_n 0, 1) := by decide +kernel
theorem dX2_readEither_39 : decode cX2_readEither 39 = .ok (.getfield 19, 3) := by decide +kernel
theorem dX2_readEither_42 : decode cX2_readEither 42 = .ok (.getfield 133, 3) := by decide +kernel
theorem dX2_readEither_45 : decode cX2_readEither 45 = .ok (.iconst (-1), 1) := by decide +kernel
theorem dX2_readEither_46 : decode cX2_readEither 46 = .ok (.invokevirtual 139, 3) := by decide +kernel
theorem dX2_readEither_49 : decode cX2_readEither 49 = .ok (.iinc 2 1, 3) := by decide +kernel
theorem dX2_readEither_52 : decode cX2_readEither 52 = .ok (.goto (-45), 3) := by decide +kernel
theorem dX2_readEither_55 : decode cX2_readEither 55 = .ok (.return_, 1) := by decide +kernel
theorem dX2_readBoth_0 : decode cX2_readBoth 0 = .ok (.aload_n 0, 1) := by decide +kernel
theorem dX2_readBoth_1 : decode cX2_readBoth 1 = .ok (.iload_n 1, 1) := by decide +kernel
theorem dX2_readBoth_2 : decode cX2_readBoth 2 = .ok (.invokevirtual 142, 3) := by decide +kernel
theorem dX2_readBoth_5 : decode cX2_readBoth 5 = .ok (.iconst 0, 1) := by decide +kernel
theorem dX2_readBoth_6 : decode cX2_readBoth 6 = .ok (.istore_n 2, 1) := by decide +kernel
theorem dX2_readBoth_7 : decode cX2_readBoth 7 = .ok (.iload_n 2, 1) := by decide +kernel
theorem dX2_readBoth_8 : decode cX2_readBoth 8 = .ok (.bipush 30, 2) := by decide +kernel
theorem dX2_readBoth_10 : decode cX2_readBoth 10 = .ok (.if_icmp .ge 46, 3) := by decide +kernel
theorem dX2_readBoth_13 : decode cX2_readBoth 13 = .ok (.aload_n 0, 1) := by decide +kernel
theorem dX2_readBoth_14 : decode cX2_readBoth 14 = .ok (.invokevirtual 49, 3) := by decide +kernel
theorem dX2_readBoth_17 : decode cX2_readBoth 17 = .ok (.ifCond .eq 39, 3) := by decide +kernel
theorem dX2_readBoth_20 : decode cX2_readBoth 20 = .ok (.aload_n 0, 1) := by decide +kernel
theorem dX2_readBoth_21 : decode cX2_readBoth 21 = .ok (.bipush 14, 2) := by decide +kernel
theorem dX2_readBoth_23 : decode cX2_readBoth 23 = .ok (.invokevirtual 130, 3) := by decide +kernel
theorem dX2_readBoth_26 : decode cX2_readBoth 26 = .ok (.ifCond .eq 30, 3) := by decide +kernel
theorem dX2_readBoth_29 : decode cX2_readBoth 29 = .ok (.aload_n 0, 1) := by decide +kernel
theorem dX2_readBoth_30 : decode cX2_readBoth 30 = .ok (.invokevirtual 46, 3) := by decide +kernel
theorem dX2_readBoth_33 : decode cX2_readBoth 33 = .ok (.aload_n 0, 1) := by decide +kernel
theorem dX2_readBoth_34 : decode cX2_readBoth 34 = .ok (.iload_n 1, 1) := by decide +kernel
theorem dX2_readBoth_35 : decode cX2_readBoth 35 = .ok (.invokevirtual 142, 3) := by decide +kernel
theorem dX2_readBoth_38 : decode cX2_readBoth 38 = .ok (.aload_n 0, 1) := by decide +kernel
theorem dX2_readBoth_39 : decode cX2_readBoth 39 = .ok (.getfield 19, 3) := by decide +kernel
theorem dX2_readBoth_42 : decode cX2_readBoth 42 = .ok (.getfield 133, 3) := by decide +kernel
theorem dX2_readBoth_45 : decode cX2_readBoth 45 = .ok (.bipush (-2), 2) := by decide +kernel
theorem dX2_readBoth_47 : decode cX2_readBoth 47 = .ok (.invokevirtual 139, 3) := by decide +kernel
theorem dX2_readBoth_50 : decode cX2_readBoth 50 = .ok (.iinc 2 1, 3) := by decide +kernel
theorem dX2_readBoth_53 : decode cX2_readBoth 53 = .ok (.goto (-46), 3) := by decide +kernel
theorem dX2_readBoth_56 : decode cX2_readBoth 56 = .ok (.return_, 1) := by decide +kernel
theorem dX2_readOne_0 : decode cX2_readOne 0 = .ok (.aload_n 0, 1) := by decide +kernel
theorem dX2_readOne_1 : decode cX2_readOne 1 = .ok (.bipush 15, 2) := by decide +kernel
theorem dX2_readOne_3 : decode cX2_readOne 3 = .ok (.invokevirtual 130, 3) := by decide +kernel
theorem dX2_readOne_6 : decode cX2_readOne 6 = .ok (.ifCond .eq 9, 3) := by decide +kernel
theorem dX2_readOne_9 : decode cX2_readOne 9 = .ok (.aload_n 0, 1) := by decide +kernel
theorem dX2_readOne_10 : decode cX2_readOne 10 = .ok (.iload_n 1, 1) := by decide +kernel
theorem dX2_readOne_11 : decode cX2_readOne 11 = .ok (.invokevirtual 145, 3) := by decide +kernel
theorem dX2_readOne_14 : decode cX2_readOne 14 = .ok (.return_, 1) := by decide +kernel
theorem dX2_readOne_15 : decode cX2_readOne 15 = .ok (.aload_n 0, 1) := by decide +kernel
theorem dX2_readOne_16 : decode cX2_readOne 16 = .ok (.iload_n 1, 1) := by decide +kernel
theorem dX2_readOne_17 : decode cX2_readOne 17 = .ok (.invokevirtual 148, 3) := by decide +kernel
theorem dX2_readOne_20 : decode cX2_readOne 20 = .ok (.aload_n 0, 1) := by decide +kernel
theorem dX2_readOne_21 : decode cX2_readOne 21 = .ok (.bipush 60, 2) := by decide +kernel
theorem dX2_readOne_23 : decode cX2_readOne 23 = .ok (.invokevirtual 82, 3) := by decide +kernel
theorem dX2_readOne_26 : decode cX2_readOne 26 = .ok (.ifCond .eq 8, 3) := by decide +kernel
theorem dX2_readOne_29 : decode cX2_readOne 29 = .ok (.bipush (-4), 2) := by decide +kernel
theorem dX2_readOne_31 : decode cX2_readOne 31 = .ok (.goto 32, 3) := by decide +kernel
theorem dX2_readOne_34 : decode cX2_readOne 34 = .ok (.aload_n 0, 1) := by decide +kernel
theorem dX2_readOne_35 : decode cX2_readOne 35 = .ok (.bipush 62, 2) := by decide +kernel
theorem dX2_readOne_37 : decode cX2_readOne 37 = .ok (.invokevirtual 82, 3) := by decide +kernel
theorem dX2_readOne_40 : decode cX2_readOne 40 = .ok (.ifCond .eq 8, 3) := by decide +kernel
theorem dX2_readOne_43 : decode cX2_readOne 43 = .ok (.bipush (-5), 2) := by decide +kernel
theorem dX2_readOne_45 : decode cX2_readOne 45 = .ok (.goto 18, 3) := by decide +kernel
theorem dX2_readOne_48 : decode cX2_readOne 48 = .ok (.aload_n 0, 1) := by decide +kernel
theorem dX2_readOne_49 : decode cX2_readOne 49 = .ok (.bipush 61, 2) := by decide +kernel
theorem dX2_readOne_51 : decode cX2_readOne 51 = .ok (.invokevirtual 82, 3) := by decide +kernel
theorem dX2_readOne_54 : decode cX2_readOne 54 = .ok (.ifCond .eq 8, 3) := by decide +kernel
theorem dX2_readOne_57 : decode cX2_readOne 57 = .ok (.bipush (-6), 2) := by decide +kernel
theorem dX2_readOne_59 : decode cX2_readOne 59 = .ok (.goto 4, 3) := by decide +kernel
theorem dX2_readOne_62 : decode cX2_readOne 62 = .ok (.iconst 0, 1) := by decide +kernel
theorem dX2_readOne_63 : decode cX2_readOne 63 = .ok (.istore_n 2, 1) := by decide +kernel
theorem dX2_readOne_64 : decode cX2_readOne 64 = .ok (.aload_n 0, 1) := by decide +kernel
theorem dX2_readOne_65 : decode cX2_readOne 65 = .ok (.invokevirtual 49, 3) := by decide +kernel
theorem dX2_readOne_68 : decode cX2_readOne 68 = .ok (.ifCond .eq 27, 3) := by decide +kernel
theorem dX2_readOne_71 : decode cX2_readOne 71 = .ok (.iload_n 2, 1) := by decide +kernel
theorem dX2_readOne_72 : decode cX2_readOne 72 = .ok (.ifCond .eq 23, 3) := by decide +kernel
theorem dX2_readOne_75 : decode cX2_readOne 75 = .ok (.aload_n 0, 1) := by decide +kernel
theorem dX2_readOne_76 : decode cX2_readOne 76 = .ok (.invokevirtual 46, 3) := by decide +kernel
theorem dX2_readOne_79 : decode cX2_readOne 79 = .ok (.aload_n 0, 1) := by decide +kernel
theorem dX2_readOne_80 : decode cX2_readOne 80 = .ok (.iload_n 1, 1) := by decide +kernel
theorem dX2_readOne_81 : decode cX2_readOne 81 = .ok (.invokevirtual 148, 3) := by decide +kernel
theorem dX2_readOne_84 : decode cX2_readOne 84 = .ok (.aload_n 0, 1) := by decide +kernel
theorem dX2_readOne_85 : decode cX2_readOne 85 = .ok (.getfield 19, 3) := by decide +kernel
theorem dX2_readOne_88 : decode cX2_readOne 88 = .ok (.getfield 133, 3) := by decide +kernel
theorem dX2_readOne_91 : decode cX2_readOne 91 = .ok (.iload_n 2, 1) := by decide +kernel
theorem dX2_readOne_92 : decode cX2_readOne 92 = .ok (.invokevirtual 139, 3) := by decide +kernel
theorem dX2_readOne_95 : decode cX2_readOne 95 = .ok (.return_, 1) := by decide +kernel
theorem dX2_readNot_0 : decode cX2_readNot 0 = .ok (.iload_n 1, 1) := by decide +kernel
theorem dX2_readNot_1 : decode cX2_readNot 1 = .ok (.bipush 6, 2) := by decide +kernel
theorem dX2_readNot_3 : decode cX2_readNot 3 = .ok (.if_icmp .le 9, 3) := by decide +kernel
theorem dX2_readNot_6 : decode cX2_readNot 6 = .ok (.aload_n 0, 1) := by decide +kernel
theorem dX2_readNot_7 : decode cX2_readNot 7 = .ok (.iconst 2, 1) := by decide +kernel
theorem dX2_readNot_8 : decode cX2_readNot 8 = .ok (.invokevirtual 69, 3) := by decide +kernel
theorem dX2_readNot_11 : decode cX2_readNot 11 = .ok (.return_, 1) := by decide +kernel
theorem dX2_readNot_12 : decode cX2_readNot 12 = .ok (.aload_n 0, 1) := by decide +kernel
theorem dX2_readNot_13 : decode cX2_readNot 13 = .ok (.invokevirtual 46, 3) := by decide +kernel
theorem dX2_readNot_16 : decode cX2_readNot 16 = .ok (.aload_n 0, 1) := by decide +kernel
theorem dX2_readNot_17 : decode cX2_readNot 17 = .ok (.iload_n 1, 1) := by decide +kernel
theorem dX2_readNot_18 : decode cX2_readNot 18 = .ok (.iconst 1, 1) := by decide +kernel
theorem dX2_readNot_19 : decode cX2_readNot 19 = .ok (.iadd, 1) := by decide +kernel
theorem dX2_readNot_20 : decode cX2_readNot 20 = .ok (.invokevirtual 142, 3) := by decide +kernel
theorem dX2_readNot_23 : decode cX2_readNot 23 = .ok (.aload_n 0, 1) := by decide +kernel
theorem dX2_readNot_24 : decode cX2_readNot 24 = .ok (.getfield 19, 3) := by decide +kernel
theorem dX2_readNot_27 : decode cX2_readNot 27 = .ok (.getfield 133, 3) := by decide +kernel
theorem dX2_readNot_30 : decode cX2_readNot 30 = .ok (.bipush (-3), 2) := by decide +kernel
theorem dX2_readNot_32 : decode cX2_readNot 32 = .ok (.invokevirtual 139, 3) := by decide +kernel
theorem dX2_readNot_35 : decode cX2_readNot 35 = .ok (.return_, 1) := by decide +kernel
theorem dX2_readSum_0 : decode cX2_readSum 0 = .ok (.aload_n 0, 1) := by decide +kernel
theorem dX2_readSum_1 : decode cX2_readSum 1 = .ok (.iload_n 1, 1) := by decide +kernel
theorem dX2_readSum_2 : decode cX2_readSum 2 = .ok (.invokevirtual 151, 3) := by decide +kernel
theorem dX2_readSum_5 : decode cX2_readSum 5 = .ok (.iconst 0, 1) := by decide +kernel
theorem dX2_readSum_6 : decode cX2_readSum 6 = .ok (.istore_n 2, 1) := by decide +kernel
theorem dX2_readSum_7 : decode cX2_readSum 7 = .ok (.iload_n 2, 1) := by decide +kernel
theorem dX2_readSum_8 : decode cX2_readSum 8 = .ok (.bipush 30, 2) := by decide +kernel
theorem dX2_readSum_10 : decode cX2_readSum 10 = .ok (.if_icmp .ge 71, 3) := by decide +kernel
theorem dX2_readSum_13 : decode cX2_readSum 13 = .ok (.aload_n 0, 1) := by decide +kernel
theorem dX2_readSum_14 : decode cX2_readSum 14 = .ok (.invokevirtual 49, 3) := by decide +kernel
theorem dX2_readSum_17 : decode cX2_readSum 17 = .ok (.ifCond .eq 64, 3) := by decide +kernel
theorem dX2_readSum_20 : decode cX2_readSum 20 = .ok (.aload_n 0, 1) := by decide +kernel
theorem dX2_readSum_21 : decode cX2_readSum 21 = .ok (.bipush 43, 2) := by decide +kernel
theorem dX2_readSum_23 : decode cX2_readSum 23 = .ok (.invokevirtual 82, 3) := by decide +kernel
theorem dX2_readSum_26 : decode cX2_readSum 26 = .ok (.ifCond .ne 12, 3) := by decide +kernel
theorem dX2_readSum_29 : decode cX2_readSum 29 = .ok (.aload_n 0, 1) := by decide +kernel
theorem dX2_readSum_30 : decode cX2_readSum 30 = .ok (.bipush 45, 2) := by decide +kernel
theorem dX2_readSum_32 : decode cX2_readSum 32 = .ok (.invokevirtual 82, 3) := by decide +kernel
theorem dX2_readSum_35 : decode cX2_readSum 35 = .ok (.ifCond .eq 46, 3) := by decide +kernel
theorem dX2_readSum_38 : decode cX2_readSum 38 = .ok (.aload_n 0, 1) := by decide +kernel
theorem dX2_readSum_39 : decode cX2_readSum 39 = .ok (.bipush 43, 2) := by decide +kernel
theorem dX2_readSum_41 : decode cX2_readSum 41 = .ok (.invokevirtual 82, 3) := by decide +kernel
theorem dX2_readSum_44 : decode cX2_readSum 44 = .ok (.ifCond .eq 8, 3) := by decide +kernel
theorem dX2_readSum_47 : decode cX2_readSum 47 = .ok (.bipush (-7), 2) := by decide +kernel
theorem dX2_readSum_49 : decode cX2_readSum 49 = .ok (.goto 5, 3) := by decide +kernel
theorem dX2_readSum_52 : decode cX2_readSum 52 = .ok (.bipush (-8), 2) := by decide +kernel
theorem dX2_readSum_54 : decode cX2_readSum 54 = .ok (.istore_n 3, 1) := by decide +kernel
theorem dX2_readSum_55 : decode cX2_readSum 55 = .ok (.aload_n 0, 1) := by decide +kernel
theorem dX2_readSum_56 : decode cX2_readSum 56 = .ok (.invokevirtual 46, 3) := by decide +kernel
theorem dX2_readSum_59 : decode cX2_readSum 59 = .ok (.aload_n 0, 1) := by decide +kernel
theorem dX2_readSum_60 : decode cX2_readSum 60 = .ok (.iload_n 1, 1) := by decide +kernel
theorem dX2_readSum_61 : decode cX2_readSum 61 = .ok (.invokevirtual 151, 3) := by decide +kernel
theorem dX2_readSum_64 : decode cX2_readSum 64 = .ok (.aload_n 0, 1) := by decide +kernel
theorem dX2_readSum_65 : decode cX2_readSum 65 = .ok (.getfield 19, 3) := by decide +kernel
theorem dX2_readSum_68 : decode cX2_readSum 68 = .ok (.getfield 133, 3) := by decide +kernel
theorem dX2_readSum_71 : decode cX2_readSum 71 = .ok (.iload_n 3, 1) := by decide +kernel
theorem dX2_readSum_72 : decode cX2_readSum 72 = .ok (.invokevirtual 139, 3) := by decide +kernel
theorem dX2_readSum_75 : decode cX2_readSum 75 = .ok (.iinc 2 1, 3) := by decide +kernel
theorem dX2_readSum_78 : decode cX2_readSum 78 = .ok (.goto (-71), 3) := by decide +kernel
theorem dX2_readSum_81 : decode cX2_readSum 81 = .ok (.return_, 1) := by decide +kernel
theorem dX2_readTerm_0 : decode cX2_readTerm 0 = .ok (.aload_n 0, 1) := by decide +kernel
theorem dX2_readTerm_1 : decode cX2_readTerm 1 = .ok (.iload_n 1, 1) := by decide +kernel
theorem dX2_readTerm_2 : decode cX2_readTerm 2 = .ok (.invokevirtual 154, 3) := by decide +kernel
theorem dX2_readTerm_5 : decode cX2_readTerm 5 = .ok (.iconst 0, 1) := by decide +kernel
theorem dX2_readTerm_6 : decode cX2_readTerm 6 = .ok (.istore_n 2, 1) := by decide +kernel
theorem dX2_readTerm_7 : decode cX2_readTerm 7 = .ok (.iload_n 2, 1) := by decide +kernel
theorem dX2_readTerm_8 : decode cX2_readTerm 8 = .ok (.bipush 30, 2) := by decide +kernel
theorem dX2_readTerm_10 : decode cX2_readTerm 10 = .ok (.if_icmp .ge 94, 3) := by decide +kernel
theorem dX2_readTerm_13 : decode cX2_readTerm 13 = .ok (.aload_n 0, 1) := by decide +kernel
theorem dX2_readTerm_14 : decode cX2_readTerm 14 = .ok (.invokevirtual 49, 3) := by decide +kernel
theorem dX2_readTerm_17 : decode cX2_readTerm 17 = .ok (.ifCond .eq 87, 3) := by decide +kernel
theorem dX2_readTerm_20 : decode cX2_readTerm 20 = .ok (.aload_n 0, 1) := by decide +kernel
theorem dX2_readTerm_21 : decode cX2_readTerm 21 = .ok (.bipush 42, 2) := by decide +kernel
theorem dX2_readTerm_23 : decode cX2_readTerm 23 = .ok (.invokevirtual 82, 3) := by decide +kernel
theorem dX2_readTerm_26 : decode cX2_readTerm 26 = .ok (.ifCond .ne 21, 3) := by decide +kernel
theorem dX2_readTerm_29 : decode cX2_readTerm 29 = .ok (.aload_n 0, 1) := by decide +kernel
theorem dX2_readTerm_30 : decode cX2_readTerm 30 = .ok (.bipush 47, 2) := by decide +kernel
theorem dX2_readTerm_32 : decode cX2_readTerm 32 = .ok (.invokevirtual 82, 3) := by decide +kernel
theorem dX2_readTerm_35 : decode cX2_readTerm 35 = .ok (.ifCond .ne 12, 3) := by decide +kernel
theorem dX2_readTerm_38 : decode cX2_readTerm 38 = .ok (.aload_n 0, 1) := by decide +kernel
theorem dX2_readTerm_39 : decode cX2_readTerm 39 = .ok (.bipush 37, 2) := by decide +kernel
theorem dX2_readTerm_41 : decode cX2_readTerm 41 = .ok (.invokevirtual 82, 3) := by decide +kernel
theorem dX2_readTerm_44 : decode cX2_readTerm 44 = .ok (.ifCond .eq 60, 3) := by decide +kernel
theorem dX2_readTerm_47 : decode cX2_readTerm 47 = .ok (.aload_n 0, 1) := by decide +kernel
theorem dX2_readTerm_48 : decode cX2_readTerm 48 = .ok (.bipush 42, 2) := by decide +kernel
theorem dX2_readTerm_50 : decode cX2_readTerm 50 = .ok (.invokevirtual 82, 3) := by decide +kernel
theorem dX2_readTerm_53 : decode cX2_readTerm 53 = .ok (.ifCond .eq 8, 3) := by decide +kernel
theorem dX2_readTerm_56 : decode cX2_readTerm 56 = .ok (.bipush (-9), 2) := by decide +kernel
theorem dX2_readTerm_58 : decode cX2_readTerm 58 = .ok (.goto 19, 3) := by decide +kernel
theorem dX2_readTerm_61 : decode cX2_readTerm 61 = .ok (.aload_n 0, 1) := by decide +kernel
theorem dX2_readTerm_62 : decode cX2_readTerm 62 = .ok (.bipush 47, 2) := by decide +kernel
theorem dX2_readTerm_64 : decode cX2_readTerm 64 = .ok (.invokevirtual 82, 3) := by decide +kernel
theorem dX2_readTerm_67 : decode cX2_readTerm 67 = .ok (.ifCond .eq 8, 3) := by decide +kernel
theorem dX2_readTerm_70 : decode cX2_readTerm 70 = .ok (.bipush (-10), 2) := by decide +kernel
theorem dX2_readTerm_72 : decode cX2_readTerm 72 = .ok (.goto 5, 3) := by decide +kernel
theorem dX2_readTerm_75 : decode cX2_readTerm 75 = .ok (.bipush (-11), 2) := by decide +kernel
theorem dX2_readTerm_77 : decode cX2_readTerm 77 = .ok (.istore_n 3, 1) := by decide +kernel
theorem dX2_readTerm_78 : decode cX2_readTerm 78 = .ok (.aload_n 0, 1) := by decide +kernel
theorem dX2_readTerm_79 : decode cX2_readTerm 79 = .ok (.invokevirtual 46, 3) := by decide +kernel
theorem dX2_readTerm_82 : decode cX2_readTerm 82 = .ok (.aload_n 0, 1) := by decide +kernel
theorem dX2_readTerm_83 : decode cX2_readTerm 83 = .ok (.iload_n 1, 1) := by decide +kernel
theorem dX2_readTerm_84 : decode cX2_readTerm 84 = .ok (.invokevirtual 154, 3) := by decide +kernel
theorem dX2_readTerm_87 : decode cX2_readTerm 87 = .ok (.aload_n 0, 1) := by decide +kernel
theorem dX2_readTerm_88 : decode cX2_readTerm 88 = .ok (.getfield 19, 3) := by decide +kernel
theorem dX2_readTerm_91 : decode cX2_readTerm 91 = .ok (.getfield 133, 3) := by decide +kernel
theorem dX2_readTerm_94 : decode cX2_readTerm 94 = .ok (.iload_n 3, 1) := by decide +kernel
theorem dX2_readTerm_95 : decode cX2_readTerm 95 = .ok (.invokevirtual 139, 3) := by decide +kernel
theorem dX2_readTerm_98 : decode cX2_readTerm 98 = .ok (.iinc 2 1, 3) := by decide +kernel
theorem dX2_readTerm_101 : decode cX2_readTerm 101 = .ok (.goto (-94), 3) := by decide +kernel
theorem dX2_readTerm_104 : decode cX2_readTerm 104 = .ok (.return_, 1) := by decide +kernel
theorem dX2_readUnit_0 : decode cX2_readUnit 0 = .ok (.aload_n 0, 1) := by decide +kernel
theorem dX2_readUnit_1 : decode cX2_readUnit 1 = .ok (.getfield 53, 3) := by decide +kernel
theorem dX2_readUnit_4 : decode cX2_readUnit 4 = .ok (.iconst 1, 1) := by decide +kernel
theorem dX2_readUnit_5 : decode cX2_readUnit 5 = .ok (.if_icmp .ne 25, 3) := by decide +kernel
theorem dX2_readUnit_8 : decode cX2_readUnit 8 = .ok (.aload_n 0, 1) := by decide +kernel
theorem dX2_readUnit_9 : decode cX2_readUnit 9 = .ok (.getfield 62, 3) := by decide +kernel
theorem dX2_readUnit_12 : decode cX2_readUnit 12 = .ok (.bipush 7, 2) := by decide +kernel
theorem dX2_readUnit_14 : decode cX2_readUnit 14 = .ok (.if_icmp .lt 16, 3) := by decide +kernel
theorem dX2_readUnit_17 : decode cX2_readUnit 17 = .ok (.aload_n 0, 1) := by decide +kernel
theorem dX2_readUnit_18 : decode cX2_readUnit 18 = .ok (.getfield 62, 3) := by decide +kernel
theorem dX2_readUnit_21 : decode cX2_readUnit 21 = .ok (.bipush 12, 2) := by decide +kernel
theorem dX2_readUnit_23 : decode cX2_readUnit 23 = .ok (.if_icmp .gt 7, 3) := by decide +kernel
theorem dX2_readUnit_26 : decode cX2_readUnit 26 = .ok (.iconst 1, 1) := by decide +kernel
theorem dX2_readUnit_27 : decode cX2_readUnit 27 = .ok (.goto 4, 3) := by decide +kernel
theorem dX2_readUnit_30 : decode cX2_readUnit 30 = .ok (.iconst 0, 1) := by decide +kernel
theorem dX2_readUnit_31 : decode cX2_readUnit 31 = .ok (.istore_n 2, 1) := by decide +kernel
theorem dX2_readUnit_32 : decode cX2_readUnit 32 = .ok (.iload_n 2, 1) := by decide +kernel
theorem dX2_readUnit_33 : decode cX2_readUnit 33 = .ok (.ifCond .ne 20, 3) := by decide +kernel
theorem dX2_readUnit_36 : decode cX2_readUnit 36 = .ok (.aload_n 0, 1) := by decide +kernel
theorem dX2_readUnit_37 : decode cX2_readUnit 37 = .ok (.getfield 53, 3) := by decide +kernel
theorem dX2_readUnit_40 : decode cX2_readUnit 40 = .ok (.iconst 3, 1) := by decide +kernel
theorem dX2_readUnit_41 : decode cX2_readUnit 41 = .ok (.if_icmp .eq 12, 3) := by decide +kernel
theorem dX2_readUnit_44 : decode cX2_readUnit 44 = .ok (.aload_n 0, 1) := by decide +kernel
theorem dX2_readUnit_45 : decode cX2_readUnit 45 = .ok (.bipush 40, 2) := by decide +kernel
theorem dX2_readUnit_47 : decode cX2_readUnit 47 = .ok (.invokevirtual 82, 3) := by decide +kernel
theorem dX2_readUnit_50 : decode cX2_readUnit 50 = .ok (.ifCond .eq 15, 3) := by decide +kernel
theorem dX2_readUnit_53 : decode cX2_readUnit 53 = .ok (.aload_n 0, 1) := by decide +kernel
theorem dX2_readUnit_54 : decode cX2_readUnit 54 = .ok (.getfield 19, 3) := by decide +kernel
theorem dX2_readUnit_57 : decode cX2_readUnit 57 = .ok (.getfield 157, 3) := by decide +kernel
theorem dX2_readUnit_60 : decode cX2_readUnit 60 = .ok (.bipush 30, 2) := by decide +kernel
theorem dX2_readUnit_62 : decode cX2_readUnit 62 = .ok (.if_icmp .lt 9, 3) := by decide +kernel
theorem dX2_readUnit_65 : decode cX2_readUnit 65 = .ok (.aload_n 0, 1) := by decide +kernel
theorem dX2_readUnit_66 : decode cX2_readUnit 66 = .ok (.iconst 2, 1) := by decide +kernel
theorem dX2_readUnit_67 : decode cX2_readUnit 67 = .ok (.invokevirtual 69, 3) := by decide +kernel
theorem dX2_readUnit_70 : decode cX2_readUnit 70 = .ok (.return_, 1) := by decide +kernel
theorem dX2_readUnit_71 : decode cX2_readUnit 71 = .ok (.aload_n 0, 1) := by decide +kernel
theorem dX2_readUnit_72 : decode cX2_readUnit 72 = .ok (.getfield 19, 3) := by decide +kernel
theorem dX2_readUnit_75 : decode cX2_readUnit 75 = .ok (.dup, 1) := by decide +kernel
theorem dX2_readUnit_76 : decode cX2_readUnit 76 = .ok (.getfield 157, 3) := by decide +kernel
theorem dX2_readUnit_79 : decode cX2_readUnit 79 = .ok (.iconst 1, 1) := by decide +kernel
theorem dX2_readUnit_80 : decode cX2_readUnit 80 = .ok (.iadd, 1) := by decide +kernel
theorem dX2_readUnit_81 : decode cX2_readUnit 81 = .ok (.putfield 157, 3) := by decide +kernel
theorem dX2_readUnit_84 : decode cX2_readUnit 84 = .ok (.aload_n 0, 1) := by decide +kernel
theorem dX2_readUnit_85 : decode cX2_readUnit 85 = .ok (.bipush 40, 2) := by decide +kernel
theorem dX2_readUnit_87 : decode cX2_readUnit 87 = .ok (.invokevirtual 82, 3) := by decide +kernel
theorem dX2_readUnit_90 : decode cX2_readUnit 90 = .ok (.ifCond .eq 9, 3) := by decide +kernel
theorem dX2_readUnit_93 : decode cX2_readUnit 93 = .ok (.aload_n 0, 1) := by decide +kernel
theorem dX2_readUnit_94 : decode cX2_readUnit 94 = .ok (.iload_n 1, 1) := by decide +kernel
theorem dX2_readUnit_95 : decode cX2_readUnit 95 = .ok (.invokevirtual 160, 3) := by decide +kernel
theorem dX2_readUnit_98 : decode cX2_readUnit 98 = .ok (.return_, 1) := by decide +kernel
theorem dX2_readUnit_99 : decode cX2_readUnit 99 = .ok (.aload_n 0, 1) := by decide +kernel
theorem dX2_readUnit_100 : decode cX2_readUnit 100 = .ok (.getfield 19, 3) := by decide +kernel
theorem dX2_readUnit_103 : decode cX2_readUnit 103 = .ok (.getfield 133, 3) := by decide +kernel
theorem dX2_readUnit_106 : decode cX2_readUnit 106 = .ok (.iload_n 2, 1) := by decide +kernel
theorem dX2_readUnit_107 : decode cX2_readUnit 107 = .ok (.ifCond .eq 16, 3) := by decide +kernel
theorem dX2_readUnit_110 : decode cX2_readUnit 110 = .ok (.bipush (-20), 2) := by decide +kernel
theorem dX2_readUnit_112 : decode cX2_readUnit 112 = .ok (.aload_n 0, 1) := by decide +kernel
theorem dX2_readUnit_113 : decode cX2_readUnit 113 = .ok (.getfield 62, 3) := by decide +kernel
theorem dX2_readUnit_116 : decode cX2_readUnit 116 = .ok (.bipush 7, 2) := by decide +kernel
theorem dX2_readUnit_118 : decode cX2_readUnit 118 = .ok (.isub, 1) := by decide +kernel
theorem dX2_readUnit_119 : decode cX2_readUnit 119 = .ok (.isub, 1) := by decide +kernel
theorem dX2_readUnit_120 : decode cX2_readUnit 120 = .ok (.goto 7, 3) := by decide +kernel
theorem dX2_readUnit_123 : decode cX2_readUnit 123 = .ok (.aload_n 0, 1) := by decide +kernel
theorem dX2_readUnit_124 : decode cX2_readUnit 124 = .ok (.getfield 62, 3) := by decide +kernel
theorem dX2_readUnit_127 : decode cX2_readUnit 127 = .ok (.invokevirtual 139, 3) := by decide +kernel
theorem dX2_readUnit_130 : decode cX2_readUnit 130 = .ok (.aload_n 0, 1) := by decide +kernel
theorem dX2_readUnit_131 : decode cX2_readUnit 131 = .ok (.invokevirtual 46, 3) := by decide +kernel
theorem dX2_readUnit_134 : decode cX2_readUnit 134 = .ok (.return_, 1) := by decide +kernel
theorem dX2_readWithin_0 : decode cX2_readWithin 0 = .ok (.iload_n 1, 1) := by decide +kernel
theorem dX2_readWithin_1 : decode cX2_readWithin 1 = .ok (.bipush 6, 2) := by decide +kernel
theorem dX2_readWithin_3 : decode cX2_readWithin 3 = .ok (.if_icmp .le 9, 3) := by decide +kernel
theorem dX2_readWithin_6 : decode cX2_readWithin 6 = .ok (.aload_n 0, 1) := by decide +kernel
theorem dX2_readWithin_7 : decode cX2_readWithin 7 = .ok (.iconst 2, 1) := by decide +kernel
theorem dX2_readWithin_8 : decode cX2_readWithin 8 = .ok (.invokevirtual 69, 3) := by decide +kernel
theorem dX2_readWithin_11 : decode cX2_readWithin 11 = .ok (.return_, 1) := by decide +kernel
theorem dX2_readWithin_12 : decode cX2_readWithin 12 = .ok (.aload_n 0, 1) := by decide +kernel
theorem dX2_readWithin_13 : decode cX2_readWithin 13 = .ok (.invokevirtual 46, 3) := by decide +kernel
theorem dX2_readWithin_16 : decode cX2_readWithin 16 = .ok (.aload_n 0, 1) := by decide +kernel
theorem dX2_readWithin_17 : decode cX2_readWithin 17 = .ok (.iload_n 1, 1) := by decide +kernel
theorem dX2_readWithin_18 : decode cX2_readWithin 18 = .ok (.iconst 1, 1) := by decide +kernel
theorem dX2_readWithin_19 : decode cX2_readWithin 19 = .ok (.iadd, 1) := by decide +kernel
theorem dX2_readWithin_20 : decode cX2_readWithin 20 = .ok (.invokevirtual 73, 3) := by decide +kernel
theorem dX2_readWithin_23 : decode cX2_readWithin 23 = .ok (.aload_n 0, 1) := by decide +kernel
theorem dX2_readWithin_24 : decode cX2_readWithin 24 = .ok (.invokevirtual 49, 3) := by decide +kernel
theorem dX2_readWithin_27 : decode cX2_readWithin 27 = .ok (.ifCond .eq 17, 3) := by decide +kernel
theorem dX2_readWithin_30 : decode cX2_readWithin 30 = .ok (.aload_n 0, 1) := by decide +kernel
theorem dX2_readWithin_31 : decode cX2_readWithin 31 = .ok (.bipush 41, 2) := by decide +kernel
theorem dX2_readWithin_33 : decode cX2_readWithin 33 = .ok (.invokevirtual 82, 3) := by decide +kernel
theorem dX2_readWithin_36 : decode cX2_readWithin 36 = .ok (.ifCond .ne 8, 3) := by decide +kernel
theorem dX2_readWithin_39 : decode cX2_readWithin 39 = .ok (.aload_n 0, 1) := by decide +kernel
theorem dX2_readWithin_40 : decode cX2_readWithin 40 = .ok (.iconst 2, 1) := by decide +kernel
theorem dX2_readWithin_41 : decode cX2_readWithin 41 = .ok (.invokevirtual 69, 3) := by decide +kernel
theorem dX2_readWithin_44 : decode cX2_readWithin 44 = .ok (.aload_n 0, 1) := by decide +kernel
theorem dX2_readWithin_45 : decode cX2_readWithin 45 = .ok (.invokevirtual 49, 3) := by decide +kernel
theorem dX2_readWithin_48 : decode cX2_readWithin 48 = .ok (.ifCond .eq 7, 3) := by decide +kernel
theorem dX2_readWithin_51 : decode cX2_readWithin 51 = .ok (.aload_n 0, 1) := by decide +kernel
theorem dX2_readWithin_52 : decode cX2_readWithin 52 = .ok (.invokevirtual 46, 3) := by decide +kernel
theorem dX2_readWithin_55 : decode cX2_readWithin 55 = .ok (.return_, 1) := by decide +kernel
theorem dX2_isWord_0 : decode cX2_isWord 0 = .ok (.aload_n 0, 1) := by decide +kernel
theorem dX2_isWord_1 : decode cX2_isWord 1 = .ok (.getfield 53, 3) := by decide +kernel
theorem dX2_isWord_4 : decode cX2_isWord 4 = .ok (.iconst 1, 1) := by decide +kernel
theorem dX2_isWord_5 : decode cX2_isWord 5 = .ok (.if_icmp .ne 15, 3) := by decide +kernel
theorem dX2_isWord_8 : decode cX2_isWord 8 = .ok (.aload_n 0, 1) := by decide +kernel
theorem dX2_isWord_9 : decode cX2_isWord 9 = .ok (.getfield 62, 3) := by decide +kernel
theorem dX2_isWord_12 : decode cX2_isWord 12 = .ok (.iload_n 1, 1) := by decide +kernel
theorem dX2_isWord_13 : decode cX2_isWord 13 = .ok (.if_icmp .ne 7, 3) := by decide +kernel
theorem dX2_isWord_16 : decode cX2_isWord 16 = .ok (.iconst 1, 1) := by decide +kernel
theorem dX2_isWord_17 : decode cX2_isWord 17 = .ok (.goto 4, 3) := by decide +kernel
theorem dX2_isWord_20 : decode cX2_isWord 20 = .ok (.iconst 0, 1) := by decide +kernel
theorem dX2_isWord_21 : decode cX2_isWord 21 = .ok (.ireturn, 1) := by decide +kernel
theorem dX2_isSign_0 : decode cX2_isSign 0 = .ok (.aload_n 0, 1) := by decide +kernel
theorem dX2_isSign_1 : decode cX2_isSign 1 = .ok (.getfield 53, 3) := by decide +kernel
theorem dX2_isSign_4 : decode cX2_isSign 4 = .ok (.iconst 4, 1) := by decide +kernel
theorem dX2_isSign_5 : decode cX2_isSign 5 = .ok (.if_icmp .ne 15, 3) := by decide +kernel
theorem dX2_isSign_8 : decode cX2_isSign 8 = .ok (.aload_n 0, 1) := by decide +kernel
theorem dX2_isSign_9 : decode cX2_isSign 9 = .ok (.getfield 62, 3) := by decide +kernel
theorem dX2_isSign_12 : decode cX2_isSign 12 = .ok (.iload_n 1, 1) := by decide +kernel
theorem dX2_isSign_13 : decode cX2_isSign 13 = .ok (.if_icmp .ne 7, 3) := by decide +kernel
theorem dX2_isSign_16 : decode cX2_isSign 16 = .ok (.iconst 1, 1) := by decide +kernel
theorem dX2_isSign_17 : decode cX2_isSign 17 = .ok (.goto 4, 3) := by decide +kernel
theorem dX2_isSign_20 : decode cX2_isSign 20 = .ok (.iconst 0, 1) := by decide +kernel
theorem dX2_isSign_21 : decode cX2_isSign 21 = .ok (.ireturn, 1) := by decide +kernel
theorem dX2_byteAt_0 : decode cX2_byteAt 0 = .ok (.iload_n 1, 1) := by decide +kernel
theorem dX2_byteAt_1 : decode cX2_byteAt 1 = .ok (.ifCond .lt 24, 3) := by decide +kernel
theorem dX2_byteAt_4 : decode cX2_byteAt 4 = .ok (.iload_n 1, 1) := by decide +kernel
theorem dX2_byteAt_5 : decode cX2_byteAt 5 = .ok (.aload_n 0, 1) := by decide +kernel
theorem dX2_byteAt_6 : decode cX2_byteAt 6 = .ok (.getfield 29, 3) := by decide +kernel
theorem dX2_byteAt_9 : decode cX2_byteAt 9 = .ok (.if_icmp .ge 16, 3) := by decide +kernel
theorem dX2_byteAt_12 : decode cX2_byteAt 12 = .ok (.aload_n 0, 1) := by decide +kernel
theorem dX2_byteAt_13 : decode cX2_byteAt 13 = .ok (.getfield 15, 3) := by decide +kernel
theorem dX2_byteAt_16 : decode cX2_byteAt 16 = .ok (.iload_n 1, 1) := by decide +kernel
theorem dX2_byteAt_17 : decode cX2_byteAt 17 = .ok (.baload, 1) := by decide +kernel
theorem dX2_byteAt_18 : decode cX2_byteAt 18 = .ok (.sipush 255, 3) := by decide +kernel
theorem dX2_byteAt_21 : decode cX2_byteAt 21 = .ok (.iand, 1) := by decide +kernel
theorem dX2_byteAt_22 : decode cX2_byteAt 22 = .ok (.goto 4, 3) := by decide +kernel
theorem dX2_byteAt_25 : decode cX2_byteAt 25 = .ok (.iconst (-1), 1) := by decide +kernel
theorem dX2_byteAt_26 : decode cX2_byteAt 26 = .ok (.ireturn, 1) := by decide +kernel
theorem dX2_isLetter_0 : decode cX2_isLetter 0 = .ok (.aload_n 0, 1) := by decide +kernel
theorem dX2_isLetter_1 : decode cX2_isLetter 1 = .ok (.iload_n 1, 1) := by decide +kernel
theorem dX2_isLetter_2 : decode cX2_isLetter 2 = .ok (.invokevirtual 163, 3) := by decide +kernel
theorem dX2_isLetter_5 : decode cX2_isLetter 5 = .ok (.bipush 97, 2) := by decide +kernel
theorem dX2_isLetter_7 : decode cX2_isLetter 7 = .ok (.if_icmp .lt 17, 3) := by decide +kernel
theorem dX2_isLetter_10 : decode cX2_isLetter 10 = .ok (.aload_n 0, 1) := by decide +kernel
theorem dX2_isLetter_11 : decode cX2_isLetter 11 = .ok (.iload_n 1, 1) := by decide +kernel
theorem dX2_isLetter_12 : decode cX2_isLetter 12 = .ok (.invokevirtual 163, 3) := by decide +kernel
theorem dX2_isLetter_15 : decode cX2_isLetter 15 = .ok (.bipush 122, 2) := by decide +kernel
theorem dX2_isLetter_17 : decode cX2_isLetter 17 = .ok (.if_icmp .gt 7, 3) := by decide +kernel
theorem dX2_isLetter_20 : decode cX2_isLetter 20 = .ok (.iconst 1, 1) := by decide +kernel
theorem dX2_isLetter_21 : decode cX2_isLetter 21 = .ok (.goto 4, 3) := by decide +kernel
theorem dX2_isLetter_24 : decode cX2_isLetter 24 = .ok (.iconst 0, 1) := by decide +kernel
theorem dX2_isLetter_25 : decode cX2_isLetter 25 = .ok (.ireturn, 1) := by decide +kernel
theorem dX2_isDigit_0 : decode cX2_isDigit 0 = .ok (.aload_n 0, 1) := by decide +kernel
theorem dX2_isDigit_1 : decode cX2_isDigit 1 = .ok (.iload_n 1, 1) := by decide +kernel
theorem dX2_isDigit_2 : decode cX2_isDigit 2 = .ok (.invokevirtual 163, 3) := by decide +kernel
theorem dX2_isDigit_5 : decode cX2_isDigit 5 = .ok (.bipush 48, 2) := by decide +kernel
theorem dX2_isDigit_7 : decode cX2_isDigit 7 = .ok (.if_icmp .lt 17, 3) := by decide +kernel
theorem dX2_isDigit_10 : decode cX2_isDigit 10 = .ok (.aload_n 0, 1) := by decide +kernel
theorem dX2_isDigit_11 : decode cX2_isDigit 11 = .ok (.iload_n 1, 1) := by decide +kernel
theorem dX2_isDigit_12 : decode cX2_isDigit 12 = .ok (.invokevirtual 163, 3) := by decide +kernel
theorem dX2_isDigit_15 : decode cX2_isDigit 15 = .ok (.bipush 57, 2) := by decide +kernel
theorem dX2_isDigit_17 : decode cX2_isDigit 17 = .ok (.if_icmp .gt 7, 3) := by decide +kernel
theorem dX2_isDigit_20 : decode cX2_isDigit 20 = .ok (.iconst 1, 1) := by decide +kernel
theorem dX2_isDigit_21 : decode cX2_isDigit 21 = .ok (.goto 4, 3) := by decide +kernel
theorem dX2_isDigit_24 : decode cX2_isDigit 24 = .ok (.iconst 0, 1) := by decide +kernel
theorem dX2_isDigit_25 : decode cX2_isDigit 25 = .ok (.ireturn, 1) := by decide +kernel
theorem dX2_advance_0 : decode cX2_advance 0 = .ok (.aload_n 0, 1) := by decide +kernel
theorem dX2_advance_1 : decode cX2_advance 1 = .ok (.getfield 32, 3) := by decide +kernel
theorem dX2_advance_4 : decode cX2_advance 4 = .ok (.aload_n 0, 1) := by decide +kernel
theorem dX2_advance_5 : decode cX2_advance 5 = .ok (.getfield 29, 3) := by decide +kernel
theorem dX2_advance_8 : decode cX2_advance 8 = .ok (.if_icmp .ge 42, 3) := by decide +kernel
theorem dX2_advance_11 : decode cX2_advance 11 = .ok (.aload_n 0, 1) := by decide +kernel
theorem dX2_advance_12 : decode cX2_advance 12 = .ok (.aload_n 0, 1) := by decide +kernel
theorem dX2_advance_13 : decode cX2_advance 13 = .ok (.getfield 32, 3) := by decide +kernel
theorem dX2_advance_16 : decode cX2_advance 16 = .ok (.invokevirtual 163, 3) := by decide +kernel
theorem dX2_advance_19 : decode cX2_advance 19 = .ok (.bipush 32, 2) := by decide +kernel
theorem dX2_advance_21 : decode cX2_advance 21 = .ok (.if_icmp .eq 16, 3) := by decide +kernel
theorem dX2_advance_24 : decode cX2_advance 24 = .ok (.aload_n 0, 1) := by decide +kernel
theorem dX2_advance_25 : decode cX2_advance 25 = .ok (.aload_n 0, 1) := by decide +kernel
theorem dX2_advance_26 : decode cX2_advance 26 = .ok (.getfield 32, 3) := by decide +kernel
theorem dX2_advance_29 : decode cX2_advance 29 = .ok (.invokevirtual 163, 3) := by decide +kernel
theorem dX2_advance_32 : decode cX2_advance 32 = .ok (.bipush 10, 2) := by decide +kernel
theorem dX2_advance_34 : decode cX2_advance 34 = .ok (.if_icmp .ne 16, 3) := by decide +kernel
theorem dX2_advance_37 : decode cX2_advance 37 = .ok (.aload_n 0, 1) := by decide +kernel
theorem dX2_advance_38 : decode cX2_advance 38 = .ok (.dup, 1) := by decide +kernel
theorem dX2_advance_39 : decode cX2_advance 39 = .ok (.getfield 32, 3) := by decide +kernel
theorem dX2_advance_42 : decode cX2_advance 42 = .ok (.iconst 1, 1) := by decide +kernel
theorem dX2_advance_43 : decode cX2_advance 43 = .ok (.iadd, 1) := by decide +kernel
theorem dX2_advance_44 : decode cX2_advance 44 = .ok (.putfield 32, 3) := by decide +kernel
theorem dX2_advance_47 : decode cX2_advance 47 = .ok (.goto (-47), 3) := by decide +kernel
theorem dX2_advance_50 : decode cX2_advance 50 = .ok (.aload_n 0, 1) := by decide +kernel
theorem dX2_advance_51 : decode cX2_advance 51 = .ok (.aload_n 0, 1) := by decide +kernel
theorem dX2_advance_52 : decode cX2_advance 52 = .ok (.getfield 32, 3) := by decide +kernel
theorem dX2_advance_55 : decode cX2_advance 55 = .ok (.putfield 59, 3) := by decide +kernel
theorem dX2_advance_58 : decode cX2_advance 58 = .ok (.aload_n 0, 1) := by decide +kernel
theorem dX2_advance_59 : decode cX2_advance 59 = .ok (.getfield 32, 3) := by decide +kernel
theorem dX2_advance_62 : decode cX2_advance 62 = .ok (.aload_n 0, 1) := by decide +kernel
theorem dX2_advance_63 : decode cX2_advance 63 = .ok (.getfield 29, 3) := by decide +kernel
theorem dX2_advance_66 : decode cX2_advance 66 = .ok (.if_icmp .lt 11, 3) := by decide +kernel
theorem dX2_advance_69 : decode cX2_advance 69 = .ok (.aload_n 0, 1) := by decide +kernel
theorem dX2_advance_70 : decode cX2_advance 70 = .ok (.iconst 0, 1) := by decide +kernel
theorem dX2_advance_71 : decode cX2_advance 71 = .ok (.putfield 53, 3) := by decide +kernel
theorem dX2_advance_74 : decode cX2_advance 74 = .ok (.goto 83, 3) := by decide +kernel
theorem dX2_advance_77 : decode cX2_advance 77 = .ok (.aload_n 0, 1) := by decide +kernel
theorem dX2_advance_78 : decode cX2_advance 78 = .ok (.aload_n 0, 1) := by decide +kernel
theorem dX2_advance_79 : decode cX2_advance 79 = .ok (.getfield 32, 3) := by decide +kernel
theorem dX2_advance_82 : decode cX2_advance 82 = .ok (.invokevirtual 167, 3) := by decide +kernel
theorem dX2_advance_85 : decode cX2_advance 85 = .ok (.ifCond .eq 10, 3) := by decide +kernel
theorem dX2_advance_88 : decode cX2_advance 88 = .ok (.aload_n 0, 1) := by decide +kernel
theorem dX2_advance_89 : decode cX2_advance 89 = .ok (.invokevirtual 170, 3) := by decide +kernel
theorem dX2_advance_92 : decode cX2_advance 92 = .ok (.goto 65, 3) := by decide +kernel
theorem dX2_advance_95 : decode cX2_advance 95 = .ok (.aload_n 0, 1) := by decide +kernel
theorem dX2_advance_96 : decode cX2_advance 96 = .ok (.aload_n 0, 1) := by decide +kernel
theorem dX2_advance_97 : decode cX2_advance 97 = .ok (.getfield 32, 3) := by decide +kernel
theorem dX2_advance_100 : decode cX2_advance 100 = .ok (.invokevirtual 173, 3) := by decide +kernel
theorem dX2_advance_103 : decode cX2_advance 103 = .ok (.ifCond .eq 10, 3) := by decide +kernel
theorem dX2_advance_106 : decode cX2_advance 106 = .ok (.aload_n 0, 1) := by decide +kernel
theorem dX2_advance_107 : decode cX2_advance 107 = .ok (.invokevirtual 176, 3) := by decide +kernel
theorem dX2_advance_110 : decode cX2_advance 110 = .ok (.goto 47, 3) := by decide +kernel
theorem dX2_advance_113 : decode cX2_advance 113 = .ok (.aload_n 0, 1) := by decide +kernel
theorem dX2_advance_114 : decode cX2_advance 114 = .ok (.aload_n 0, 1) := by decide +kernel
theorem dX2_advance_115 : decode cX2_advance 115 = .ok (.aload_n 0, 1) := by decide +kernel
theorem dX2_advance_116 : decode cX2_advance 116 = .ok (.getfield 32, 3) := by decide +kernel
theorem dX2_advance_119 : decode cX2_advance 119 = .ok (.invokevirtual 163, 3) := by decide +kernel
theorem dX2_advance_122 : decode cX2_advance 122 = .ok (.putfield 62, 3) := by decide +kernel
theorem dX2_advance_125 : decode cX2_advance 125 = .ok (.aload_n 0, 1) := by decide +kernel
theorem dX2_advance_126 : decode cX2_advance 126 = .ok (.ldc 179, 2) := by decide +kernel
theorem dX2_advance_128 : decode cX2_advance 128 = .ok (.aload_n 0, 1) := by decide +kernel
theorem dX2_advance_129 : decode cX2_advance 129 = .ok (.getfield 62, 3) := by decide +kernel
theorem dX2_advance_132 : decode cX2_advance 132 = .ok (.i2c, 1) := by decide +kernel
theorem dX2_advance_133 : decode cX2_advance 133 = .ok (.invokevirtual 181, 3) := by decide +kernel
theorem dX2_advance_136 : decode cX2_advance 136 = .ok (.ifCond .lt 7, 3) := by decide +kernel
theorem dX2_advance_139 : decode cX2_advance 139 = .ok (.iconst 4, 1) := by decide +kernel
theorem dX2_advance_140 : decode cX2_advance 140 = .ok (.goto 4, 3) := by decide +kernel
theorem dX2_advance_143 : decode cX2_advance 143 = .ok (.iconst 5, 1) := by decide +kernel
theorem dX2_advance_144 : decode cX2_advance 144 = .ok (.putfield 53, 3) := by decide +kernel
theorem dX2_advance_147 : decode cX2_advance 147 = .ok (.aload_n 0, 1) := by decide +kernel
theorem dX2_advance_148 : decode cX2_advance 148 = .ok (.dup, 1) := by decide +kernel
theorem dX2_advance_149 : decode cX2_advance 149 = .ok (.getfield 32, 3) := by decide +kernel
theorem dX2_advance_152 : decode cX2_advance 152 = .ok (.iconst 1, 1) := by decide +kernel
theorem dX2_advance_153 : decode cX2_advance 153 = .ok (.iadd, 1) := by decide +kernel
theorem dX2_advance_154 : decode cX2_advance 154 = .ok (.putfield 32, 3) := by decide +kernel
theorem dX2_advance_157 : decode cX2_advance 157 = .ok (.return_, 1) := by decide +kernel
theorem dX2_readLetters_0 : decode cX2_readLetters 0 = .ok (.aload_n 0, 1) := by decide +kernel
theorem dX2_readLetters_1 : decode cX2_readLetters 1 = .ok (.lconst 0, 1) := by decide +kernel
theorem dX2_readLetters_2 : decode cX2_readLetters 2 = .ok (.putfield 106, 3) := by decide +kernel
theorem dX2_readLetters_5 : decode cX2_readLetters 5 = .ok (.aload_n 0, 1) := by decide +kernel
theorem dX2_readLetters_6 : decode cX2_readLetters 6 = .ok (.getfield 32, 3) := by decide +kernel
theorem dX2_readLetters_9 : decode cX2_readLetters 9 = .ok (.aload_n 0, 1) := by decide +kernel
theorem dX2_readLetters_10 : decode cX2_readLetters 10 = .ok (.getfield 29, 3) := by decide +kernel
theorem dX2_readLetters_13 : decode cX2_readLetters 13 = .ok (.if_icmp .ge 54, 3) := by decide +kernel
theorem dX2_readLetters_16 : decode cX2_readLetters 16 = .ok (.aload_n 0, 1) := by decide +kernel
theorem dX2_readLetters_17 : decode cX2_readLetters 17 = .ok (.aload_n 0, 1) := by decide +kernel
theorem dX2_readLetters_18 : decode cX2_readLetters 18 = .ok (.getfield 32, 3) := by decide +kernel
theorem dX2_readLetters_21 : decode cX2_readLetters 21 = .ok (.invokevirtual 167, 3) := by decide +kernel
theorem dX2_readLetters_24 : decode cX2_readLetters 24 = .ok (.ifCond .eq 43, 3) := by decide +kernel
theorem dX2_readLetters_27 : decode cX2_readLetters 27 = .ok (.aload_n 0, 1) := by decide +kernel
theorem dX2_readLetters_28 : decode cX2_readLetters 28 = .ok (.aload_n 0, 1) := by decide +kernel
theorem dX2_readLetters_29 : decode cX2_readLetters 29 = .ok (.getfield 106, 3) := by decide +kernel
theorem dX2_readLetters_32 : decode cX2_readLetters 32 = .ok (.ldc2_w 186, 3) := by decide +kernel
theorem dX2_readLetters_35 : decode cX2_readLetters 35 = .ok (.lmul, 1) := by decide +kernel
theorem dX2_readLetters_36 : decode cX2_readLetters 36 = .ok (.aload_n 0, 1) := by decide +kernel
theorem dX2_readLetters_37 : decode cX2_readLetters 37 = .ok (.aload_n 0, 1) := by decide +kernel
theorem dX2_readLetters_38 : decode cX2_readLetters 38 = .ok (.getfield 32, 3) := by decide +kernel
theorem dX2_readLetters_41 : decode cX2_readLetters 41 = .ok (.invokevirtual 163, 3) := by decide +kernel
theorem dX2_readLetters_44 : decode cX2_readLetters 44 = .ok (.bipush 97, 2) := by decide +kernel
theorem dX2_readLetters_46 : decode cX2_readLetters 46 = .ok (.isub, 1) := by decide +kernel
theorem dX2_readLetters_47 : decode cX2_readLetters 47 = .ok (.iconst 1, 1) := by decide +kernel
theorem dX2_readLetters_48 : decode cX2_readLetters 48 = .ok (.iadd, 1) := by decide +kernel
theorem dX2_readLetters_49 : decode cX2_readLetters 49 = .ok (.i2l, 1) := by decide +kernel
theorem dX2_readLetters_50 : decode cX2_readLetters 50 = .ok (.ladd, 1) := by decide +kernel
theorem dX2_readLetters_51 : decode cX2_readLetters 51 = .ok (.putfield 106, 3) := by decide +kernel
theorem dX2_readLetters_54 : decode cX2_readLetters 54 = .ok (.aload_n 0, 1) := by decide +kernel
theorem dX2_readLetters_55 : decode cX2_readLetters 55 = .ok (.dup, 1) := by decide +kernel
theorem dX2_readLetters_56 : decode cX2_readLetters 56 = .ok (.getfield 32, 3) := by decide +kernel
theorem dX2_readLetters_59 : decode cX2_readLetters 59 = .ok (.iconst 1, 1) := by decide +kernel
theorem dX2_readLetters_60 : decode cX2_readLetters 60 = .ok (.iadd, 1) := by decide +kernel
theorem dX2_readLetters_61 : decode cX2_readLetters 61 = .ok (.putfield 32, 3) := by decide +kernel
theorem dX2_readLetters_64 : decode cX2_readLetters 64 = .ok (.goto (-59), 3) := by decide +kernel
theorem dX2_readLetters_67 : decode cX2_readLetters 67 = .ok (.aload_n 0, 1) := by decide +kernel
theorem dX2_readLetters_68 : decode cX2_readLetters 68 = .ok (.getfield 32, 3) := by decide +kernel
theorem dX2_readLetters_71 : decode cX2_readLetters 71 = .ok (.aload_n 0, 1) := by decide +kernel
theorem dX2_readLetters_72 : decode cX2_readLetters 72 = .ok (.getfield 59, 3) := by decide +kernel
theorem dX2_readLetters_75 : decode cX2_readLetters 75 = .ok (.isub, 1) := by decide +kernel
theorem dX2_readLetters_76 : decode cX2_readLetters 76 = .ok (.bipush 8, 2) := by decide +kernel
theorem dX2_readLetters_78 : decode cX2_readLetters 78 = .ok (.if_icmp .le 9, 3) := by decide +kernel
theorem dX2_readLetters_81 : decode cX2_readLetters 81 = .ok (.aload_n 0, 1) := by decide +kernel
theorem dX2_readLetters_82 : decode cX2_readLetters 82 = .ok (.iconst 5, 1) := by decide +kernel
theorem dX2_readLetters_83 : decode cX2_readLetters 83 = .ok (.putfield 53, 3) := by decide +kernel
theorem dX2_readLetters_86 : decode cX2_readLetters 86 = .ok (.return_, 1) := by decide +kernel
theorem dX2_readLetters_87 : decode cX2_readLetters 87 = .ok (.aload_n 0, 1) := by decide +kernel
theorem dX2_readLetters_88 : decode cX2_readLetters 88 = .ok (.iconst 2, 1) := by decide +kernel
theorem dX2_readLetters_89 : decode cX2_readLetters 89 = .ok (.putfield 53, 3) := by decide +kernel
theorem dX2_readLetters_92 : decode cX2_readLetters 92 = .ok (.iconst 0, 1) := by decide +kernel
theorem dX2_readLetters_93 : decode cX2_readLetters 93 = .ok (.istore_n 1, 1) := by decide +kernel
theorem dX2_readLetters_94 : decode cX2_readLetters 94 = .ok (.iload_n 1, 1) := by decide +kernel
theorem dX2_readLetters_95 : decode cX2_readLetters 95 = .ok (.bipush 15, 2) := by decide +kernel
theorem dX2_readLetters_97 : decode cX2_readLetters 97 = .ok (.if_icmp .gt 27, 3) := by decide +kernel
theorem dX2_readLetters_100 : decode cX2_readLetters 100 = .ok (.aload_n 0, 1) := by decide +kernel
theorem dX2_readLetters_101 : decode cX2_readLetters 101 = .ok (.iload_n 1, 1) := by decide +kernel
theorem dX2_readLetters_102 : decode cX2_readLetters 102 = .ok (.invokevirtual 188, 3) := by decide +kernel
theorem dX2_readLetters_105 : decode cX2_readLetters 105 = .ok (.ifCond .eq 13, 3) := by decide +kernel
theorem dX2_readLetters_108 : decode cX2_readLetters 108 = .ok (.aload_n 0, 1) := by decide +kernel
theorem dX2_readLetters_109 : decode cX2_readLetters 109 = .ok (.iconst 1, 1) := by decide +kernel
theorem dX2_readLetters_110 : decode cX2_readLetters 110 = .ok (.putfield 53, 3) := by decide +kernel
theorem dX2_readLetters_113 : decode cX2_readLetters 113 = .ok (.aload_n 0, 1) := by decide +kernel
theorem dX2_readLetters_114 : decode cX2_readLetters 114 = .ok (.iload_n 1, 1) := by decide +kernel
theorem dX2_readLetters_115 : decode cX2_readLetters 115 = .ok (.putfield 62, 3) := by decide +kernel
theorem dX2_readLetters_118 : decode cX2_readLetters 118 = .ok (.iinc 1 1, 3) := by decide +kernel
theorem dX2_readLetters_121 : decode cX2_readLetters 121 = .ok (.goto (-27), 3) := by decide +kernel
theorem dX2_readLetters_124 : decode cX2_readLetters 124 = .ok (.return_, 1) := by decide +kernel
theorem dX2_isSpelt_0 : decode cX2_isSpelt 0 = .ok (.iconst 0, 1) := by decide +kernel
theorem dX2_isSpelt_1 : decode cX2_isSpelt 1 = .ok (.istore_n 2, 1) := by decide +kernel
theorem dX2_isSpelt_2 : decode cX2_isSpelt 2 = .ok (.iload_n 2, 1) := by decide +kernel
theorem dX2_isSpelt_3 : decode cX2_isSpelt 3 = .ok (.bipush 8, 2) := by decide +kernel
theorem dX2_isSpelt_5 : decode cX2_isSpelt 5 = .ok (.if_icmp .ge 55, 3) := by decide +kernel
theorem dX2_isSpelt_8 : decode cX2_isSpelt 8 = .ok (.aload_n 0, 1) := by decide +kernel
theorem dX2_isSpelt_9 : decode cX2_isSpelt 9 = .ok (.getfield 59, 3) := by decide +kernel
theorem dX2_isSpelt_12 : decode cX2_isSpelt 12 = .ok (.iload_n 2, 1) := by decide +kernel
theorem dX2_isSpelt_13 : decode cX2_isSpelt 13 = .ok (.iadd, 1) := by decide +kernel
theorem dX2_isSpelt_14 : decode cX2_isSpelt 14 = .ok (.aload_n 0, 1) := by decide +kernel
theorem dX2_isSpelt_15 : decode cX2_isSpelt 15 = .ok (.getfield 32, 3) := by decide +kernel
theorem dX2_isSpelt_18 : decode cX2_isSpelt 18 = .ok (.if_icmp .ge 16, 3) := by decide +kernel
theorem dX2_isSpelt_21 : decode cX2_isSpelt 21 = .ok (.aload_n 0, 1) := by decide +kernel
theorem dX2_isSpelt_22 : decode cX2_isSpelt 22 = .ok (.aload_n 0, 1) := by decide +kernel
theorem dX2_isSpelt_23 : decode cX2_isSpelt 23 = .ok (.getfield 59, 3) := by decide +kernel
theorem dX2_isSpelt_26 : decode cX2_isSpelt 26 = .ok (.iload_n 2, 1) := by decide +kernel
theorem dX2_isSpelt_27 : decode cX2_isSpelt 27 = .ok (.iadd, 1) := by decide +kernel
theorem dX2_isSpelt_28 : decode cX2_isSpelt 28 = .ok (.invokevirtual 163, 3) := by decide +kernel
theorem dX2_isSpelt_31 : decode cX2_isSpelt 31 = .ok (.goto 5, 3) := by decide +kernel
theorem dX2_isSpelt_34 : decode cX2_isSpelt 34 = .ok (.bipush 32, 2) := by decide +kernel
theorem dX2_isSpelt_36 : decode cX2_isSpelt 36 = .ok (.istore_n 3, 1) := by decide +kernel
theorem dX2_isSpelt_37 : decode cX2_isSpelt 37 = .ok (.ldc 191, 2) := by decide +kernel
theorem dX2_isSpelt_39 : decode cX2_isSpelt 39 = .ok (.iload_n 1, 1) := by decide +kernel
theorem dX2_isSpelt_40 : decode cX2_isSpelt 40 = .ok (.bipush 8, 2) := by decide +kernel
theorem dX2_isSpelt_42 : decode cX2_isSpelt 42 = .ok (.imul, 1) := by decide +kernel
theorem dX2_isSpelt_43 : decode cX2_isSpelt 43 = .ok (.iload_n 2, 1) := by decide +kernel
theorem dX2_isSpelt_44 : decode cX2_isSpelt 44 = .ok (.iadd, 1) := by decide +kernel
theorem dX2_isSpelt_45 : decode cX2_isSpelt 45 = .ok (.invokevirtual 193, 3) := by decide +kernel
theorem dX2_isSpelt_48 : decode cX2_isSpelt 48 = .ok (.iload_n 3, 1) := by decide +kernel
theorem dX2_isSpelt_49 : decode cX2_isSpelt 49 = .ok (.if_icmp .eq 5, 3) := by decide +kernel
theorem dX2_isSpelt_52 : decode cX2_isSpelt 52 = .ok (.iconst 0, 1) := by decide +kernel
theorem dX2_isSpelt_53 : decode cX2_isSpelt 53 = .ok (.ireturn, 1) := by decide +kernel
theorem dX2_isSpelt_54 : decode cX2_isSpelt 54 = .ok (.iinc 2 1, 3) := by decide +kernel
theorem dX2_isSpelt_57 : decode cX2_isSpelt 57 = .ok (.goto (-55), 3) := by decide +kernel
theorem dX2_isSpelt_60 : decode cX2_isSpelt 60 = .ok (.iconst 1, 1) := by decide +kernel
theorem dX2_isSpelt_61 : decode cX2_isSpelt 61 = .ok (.ireturn, 1) := by decide +kernel
theorem dX2_readDigits_0 : decode cX2_readDigits 0 = .ok (.aload_n 0, 1) := by decide +kernel
theorem dX2_readDigits_1 : decode cX2_readDigits 1 = .ok (.iconst 0, 1) := by decide +kernel
theorem dX2_readDigits_2 : decode cX2_readDigits 2 = .ok (.putfield 62, 3) := by decide +kernel
theorem dX2_readDigits_5 : decode cX2_readDigits 5 = .ok (.aload_n 0, 1) := by decide +kernel
theorem dX2_readDigits_6 : decode cX2_readDigits 6 = .ok (.getfield 32, 3) := by decide +kernel
theorem dX2_readDigits_9 : decode cX2_readDigits 9 = .ok (.aload_n 0, 1) := by decide +kernel
theorem dX2_readDigits_10 : decode cX2_readDigits 10 = .ok (.getfield 29, 3) := by decide +kernel
theorem dX2_readDigits_13 : decode cX2_readDigits 13 = .ok (.if_icmp .ge 50, 3) := by decide +kernel
theorem dX2_readDigits_16 : decode cX2_readDigits 16 = .ok (.aload_n 0, 1) := by decide +kernel
theorem dX2_readDigits_17 : decode cX2_readDigits 17 = .ok (.aload_n 0, 1) := by decide +kernel
theorem dX2_readDigits_18 : decode cX2_readDigits 18 = .ok (.getfield 32, 3) := by decide +kernel
theorem dX2_readDigits_21 : decode cX2_readDigits 21 = .ok (.invokevirtual 173, 3) := by decide +kernel
theorem dX2_readDigits_24 : decode cX2_readDigits 24 = .ok (.ifCond .eq 39, 3) := by decide +kernel
theorem dX2_readDigits_27 : decode cX2_readDigits 27 = .ok (.aload_n 0, 1) := by decide +kernel
theorem dX2_readDigits_28 : decode cX2_readDigits 28 = .ok (.aload_n 0, 1) := by decide +kernel
theorem dX2_readDigits_29 : decode cX2_readDigits 29 = .ok (.getfield 62, 3) := by decide +kernel
theorem dX2_readDigits_32 : decode cX2_readDigits 32 = .ok (.bipush 10, 2) := by decide +kernel
theorem dX2_readDigits_34 : decode cX2_readDigits 34 = .ok (.imul, 1) := by decide +kernel
theorem dX2_readDigits_35 : decode cX2_readDigits 35 = .ok (.aload_n 0, 1) := by decide +kernel
theorem dX2_readDigits_36 : decode cX2_readDigits 36 = .ok (.aload_n 0, 1) := by decide +kernel
theorem dX2_readDigits_37 : decode cX2_readDigits 37 = .ok (.getfield 32, 3) := by decide +kernel
theorem dX2_readDigits_40 : decode cX2_readDigits 40 = .ok (.invokevirtual 163, 3) := by decide +kernel
theorem dX2_readDigits_43 : decode cX2_readDigits 43 = .ok (.bipush 48, 2) := by decide +kernel
theorem dX2_readDigits_45 : decode cX2_readDigits 45 = .ok (.isub, 1) := by decide +kernel
theorem dX2_readDigits_46 : decode cX2_readDigits 46 = .ok (.iadd, 1) := by decide +kernel
theorem dX2_readDigits_47 : decode cX2_readDigits 47 = .ok (.putfield 62, 3) := by decide +kernel
theorem dX2_readDigits_50 : decode cX2_readDigits 50 = .ok (.aload_n 0, 1) := by decide +kernel
theorem dX2_readDigits_51 : decode cX2_readDigits 51 = .ok (.dup, 1) := by decide +kernel
theorem dX2_readDigits_52 : decode cX2_readDigits 52 = .ok (.getfield 32, 3) := by decide +kernel
theorem dX2_readDigits_55 : decode cX2_readDigits 55 = .ok (.iconst 1, 1) := by decide +kernel
theorem dX2_readDigits_56 : decode cX2_readDigits 56 = .ok (.iadd, 1) := by decide +kernel
theorem dX2_readDigits_57 : decode cX2_readDigits 57 = .ok (.putfield 32, 3) := by decide +kernel
theorem dX2_readDigits_60 : decode cX2_readDigits 60 = .ok (.goto (-55), 3) := by decide +kernel
theorem dX2_readDigits_63 : decode cX2_readDigits 63 = .ok (.aload_n 0, 1) := by decide +kernel
theorem dX2_readDigits_64 : decode cX2_readDigits 64 = .ok (.aload_n 0, 1) := by decide +kernel
theorem dX2_readDigits_65 : decode cX2_readDigits 65 = .ok (.getfield 32, 3) := by decide +kernel
theorem dX2_readDigits_68 : decode cX2_readDigits 68 = .ok (.aload_n 0, 1) := by decide +kernel
theorem dX2_readDigits_69 : decode cX2_readDigits 69 = .ok (.getfield 59, 3) := by decide +kernel
theorem dX2_readDigits_72 : decode cX2_readDigits 72 = .ok (.isub, 1) := by decide +kernel
theorem dX2_readDigits_73 : decode cX2_readDigits 73 = .ok (.iconst 4, 1) := by decide +kernel
theorem dX2_readDigits_74 : decode cX2_readDigits 74 = .ok (.if_icmp .gt 14, 3) := by decide +kernel
theorem dX2_readDigits_77 : decode cX2_readDigits 77 = .ok (.aload_n 0, 1) := by decide +kernel
theorem dX2_readDigits_78 : decode cX2_readDigits 78 = .ok (.aload_n 0, 1) := by decide +kernel
theorem dX2_readDigits_79 : decode cX2_readDigits 79 = .ok (.getfield 32, 3) := by decide +kernel
theorem dX2_readDigits_82 : decode cX2_readDigits 82 = .ok (.invokevirtual 167, 3) := by decide +kernel
theorem dX2_readDigits_85 : decode cX2_readDigits 85 = .ok (.ifCond .eq 7, 3) := by decide +kernel
theorem dX2_readDigits_88 : decode cX2_readDigits 88 = .ok (.iconst 5, 1) := by decide +kernel
theorem dX2_readDigits_89 : decode cX2_readDigits 89 = .ok (.goto 4, 3) := by decide +kernel
theorem dX2_readDigits_92 : decode cX2_readDigits 92 = .ok (.iconst 3, 1) := by decide +kernel
theorem dX2_readDigits_93 : decode cX2_readDigits 93 = .ok (.putfield 53, 3) := by decide +kernel
theorem dX2_readDigits_96 : decode cX2_readDigits 96 = .ok (.return_, 1) := by decide +kernel
theorem dX3_init_0 : decode cX3_init 0 = .ok (.aload_n 0, 1) := by decide +kernel
theorem dX3_init_1 : decode cX3_init 1 = .ok (.invokespecial 3, 3) := by decide +kernel
theorem dX3_init_4 : decode cX3_init 4 = .ok (.aload_n 0, 1) := by decide +kernel
theorem dX3_init_5 : decode cX3_init 5 = .ok (.aload_n 1, 1) := by decide +kernel
theorem dX3_init_6 : decode cX3_init 6 = .ok (.putfield 9, 3) := by decide +kernel
theorem dX3_init_9 : decode cX3_init 9 = .ok (.return_, 1) := by decide +kernel
theorem dX3_follow_0 : decode cX3_follow 0 = .ok (.aload_n 0, 1) := by decide +kernel
theorem dX3_follow_1 : decode cX3_follow 1 = .ok (.aload_n 1, 1) := by decide +kernel
theorem dX3_follow_2 : decode cX3_follow 2 = .ok (.putfield 9, 3) := by decide +kernel
theorem dX3_follow_5 : decode cX3_follow 5 = .ok (.return_, 1) := by decide +kernel
theorem dX3_give_0 : decode cX3_give 0 = .ok (.aload_n 1, 1) := by decide +kernel
theorem dX3_give_1 : decode cX3_give 1 = .ok (.getfield 15, 3) := by decide +kernel
theorem dX3_give_4 : decode cX3_give 4 = .ok (.iconst 0, 1) := by decide +kernel
theorem dX3_give_5 : decode cX3_give 5 = .ok (.iaload, 1) := by decide +kernel
theorem dX3_give_6 : decode cX3_give 6 = .ok (.istore 4, 2) := by decide +kernel
theorem dX3_give_8 : decode cX3_give 8 = .ok (.aload_n 1, 1) := by decide +kernel
theorem dX3_give_9 : decode cX3_give 9 = .ok (.getfield 21, 3) := by decide +kernel
theorem dX3_give_12 : decode cX3_give 12 = .ok (.iload 4, 2) := by decide +kernel
theorem dX3_give_14 : decode cX3_give 14 = .ok (.iaload, 1) := by decide +kernel
theorem dX3_give_15 : decode cX3_give 15 = .ok (.iconst 1, 1) := by decide +kernel
theorem dX3_give_16 : decode cX3_give 16 = .ok (.iadd, 1) := by decide +kernel
theorem dX3_give_17 : decode cX3_give 17 = .ok (.istore 5, 2) := by decide +kernel
theorem dX3_give_19 : decode cX3_give 19 = .ok (.aload_n 1, 1) := by decide +kernel
theorem dX3_give_20 : decode cX3_give 20 = .ok (.getfield 24, 3) := by decide +kernel
theorem dX3_give_23 : decode cX3_give 23 = .ok (.ifCond .eq 10, 3) := by decide +kernel
theorem dX3_give_26 : decode cX3_give 26 = .ok (.iload 5, 2) := by decide +kernel
theorem dX3_give_28 : decode cX3_give 28 = .ok (.bipush 40, 2) := by decide +kernel
theorem dX3_give_30 : decode cX3_give 30 = .ok (.if_icmp .le 5, 3) := by decide +kernel
theorem dX3_give_33 : decode cX3_give 33 = .ok (.iconst (-1), 1) := by decide +kernel
theorem dX3_give_34 : decode cX3_give 34 = .ok (.ireturn, 1) := by decide +kernel
theorem dX3_give_35 : decode cX3_give 35 = .ok (.aload_n 1, 1) := by decide +kernel
theorem dX3_give_36 : decode cX3_give 36 = .ok (.getfield 28, 3) := by decide +kernel
theorem dX3_give_39 : decode cX3_give 39 = .ok (.iload 5, 2) := by decide +kernel
theorem dX3_give_41 : decode cX3_give 41 = .ok (.iload_n 2, 1) := by decide +kernel
theorem dX3_give_42 : decode cX3_give 42 = .ok (.iastore, 1) := by decide +kernel
theorem dX3_give_43 : decode cX3_give 43 = .ok (.aload_n 1, 1) := by decide +kernel
theorem dX3_give_44 : decode cX3_give 44 = .ok (.getfield 31, 3) := by decide +kernel
theorem dX3_give_47 : decode cX3_give 47 = .ok (.iload 5, 2) := by decide +kernel
theorem dX3_give_49 : decode cX3_give 49 = .ok (.iload_n 3, 1) := by decide +kernel
theorem dX3_give_50 : decode cX3_give 50 = .ok (.iastore, 1) := by decide +kernel
theorem dX3_give_51 : decode cX3_give 51 = .ok (.aload_n 0, 1) := by decide +kernel
theorem dX3_give_52 : decode cX3_give 52 = .ok (.aload_n 1, 1) := by decide +kernel
theorem dX3_give_53 : decode cX3_give 53 = .ok (.iconst 0, 1) := by decide +kernel
theorem dX3_give_54 : decode cX3_give 54 = .ok (.iload 5, 2) := by decide +kernel
theorem dX3_give_56 : decode cX3_give 56 = .ok (.invokevirtual 34, 3) := by decide +kernel
theorem dX3_give_59 : decode cX3_give 59 = .ok (.iload 5, 2) := by decide +kernel
theorem dX3_give_61 : decode cX3_give 61 = .ok (.ireturn, 1) := by decide +kernel
theorem dX3_take_0 : decode cX3_take 0 = .ok (.aload_n 1, 1) := by decide +kernel
theorem dX3_take_1 : decode cX3_take 1 = .ok (.getfield 15, 3) := by decide +kernel
theorem dX3_take_4 : decode cX3_take 4 = .ok (.iload_n 2, 1) := by decide +kernel
theorem dX3_take_5 : decode cX3_take 5 = .ok (.iaload, 1) := by decide +kernel
theorem dX3_take_6 : decode cX3_take 6 = .ok (.istore 4, 2) := by decide +kernel
theorem dX3_take_8 : decode cX3_take 8 = .ok (.aload_n 1, 1) := by decide +kernel
theorem dX3_take_9 : decode cX3_take 9 = .ok (.getfield 21, 3) := by decide +kernel
theorem dX3_take_12 : decode cX3_take 12 = .ok (.iload 4, 2) := by decide +kernel
theorem dX3_take_14 : decode cX3_take 14 = .ok (.iload_n 3, 1) := by decide +kernel
theorem dX3_take_15 : decode cX3_take 15 = .ok (.iastore, 1) := by decide +kernel
theorem dX3_take_16 : decode cX3_take 16 = .ok (.iload_n 2, 1) := by decide +kernel
theorem dX3_take_17 : decode cX3_take 17 = .ok (.aload_n 1, 1) := by decide +kernel
theorem dX3_take_18 : decode cX3_take 18 = .ok (.getfield 24, 3) := by decide +kernel
theorem dX3_take_21 : decode cX3_take 21 = .ok (.iconst 1, 1) := by decide +kernel
theorem dX3_take_22 : decode cX3_take 22 = .ok (.isub, 1) := by decide +kernel
theorem dX3_take_23 : decode cX3_take 23 = .ok (.if_icmp .ge 11, 3) := by decide +kernel
theorem dX3_take_26 : decode cX3_take 26 = .ok (.aload_n 0, 1) := by decide +kernel
theorem dX3_take_27 : decode cX3_take 27 = .ok (.aload_n 1, 1) := by decide +kernel
theorem dX3_take_28 : decode cX3_take 28 = .ok (.iload_n 2, 1) := by decide +kernel
theorem dX3_take_29 : decode cX3_take 29 = .ok (.iload_n 3, 1) := by decide +kernel
theorem dX3_take_30 : decode cX3_take 30 = .ok (.invokevirtual 38, 3) := by decide +kernel
theorem dX3_take_33 : decode cX3_take 33 = .ok (.return_, 1) := by decide +kernel
theorem dX3_take_34 : decode cX3_take 34 = .ok (.aload_n 1, 1) := by decide +kernel
theorem dX3_take_35 : decode cX3_take 35 = .ok (.getfield 41, 3) := by decide +kernel
theorem dX3_take_38 : decode cX3_take 38 = .ok (.iload 4, 2) := by decide +kernel
theorem dX3_take_40 : decode cX3_take 40 = .ok (.iload_n 3, 1) := by decide +kernel
theorem dX3_take_41 : decode cX3_take 41 = .ok (.iastore, 1) := by decide +kernel
theorem dX3_take_42 : decode cX3_take 42 = .ok (.iload_n 2, 1) := by decide +kernel
theorem dX3_take_43 : decode cX3_take 43 = .ok (.ifCond .le 12, 3) := by decide +kernel
theorem dX3_take_46 : decode cX3_take 46 = .ok (.aload_n 0, 1) := by decide +kernel
theorem dX3_take_47 : decode cX3_take 47 = .ok (.aload_n 1, 1) := by decide +kernel
theorem dX3_take_48 : decode cX3_take 48 = .ok (.iload_n 2, 1) := by decide +kernel
theorem dX3_take_49 : decode cX3_take 49 = .ok (.iconst 1, 1) := by decide +kernel
theorem dX3_take_50 : decode cX3_take 50 = .ok (.isub, 1) := by decide +kernel
theorem dX3_take_51 : decode cX3_take 51 = .ok (.iload_n 3, 1) := by decide +kernel
theorem dX3_take_52 : decode cX3_take 52 = .ok (.invokevirtual 44, 3) := by decide +kernel
theorem dX3_take_55 : decode cX3_take 55 = .ok (.return_, 1) := by decide +kernel
theorem dX3_sendDown_0 : decode cX3_sendDown 0 = .ok (.aload_n 1, 1) := by decide +kernel
theorem dX3_sendDown_1 : decode cX3_sendDown 1 = .ok (.getfield 15, 3) := by decide +kernel
theorem dX3_sendDown_4 : decode cX3_sendDown 4 = .ok (.iload_n 2, 1) := by decide +kernel
theorem dX3_sendDown_5 : decode cX3_sendDown 5 = .ok (.iaload, 1) := by decide +kernel
theorem dX3_sendDown_6 : decode cX3_sendDown 6 = .ok (.istore 4, 2) := by decide +kernel
theorem dX3_sendDown_8 : decode cX3_sendDown 8 = .ok (.aload_n 1, 1) := by decide +kernel
theorem dX3_sendDown_9 : decode cX3_sendDown 9 = .ok (.getfield 15, 3) := by decide +kernel
theorem dX3_sendDown_12 : decode cX3_sendDown 12 = .ok (.iload_n 2, 1) := by decide +kernel
theorem dX3_sendDown_13 : decode cX3_sendDown 13 = .ok (.iconst 1, 1) := by decide +kernel
theorem dX3_sendDown_14 : decode cX3_sendDown 14 = .ok (.iadd, 1) := by decide +kernel
theorem dX3_sendDown_15 : decode cX3_sendDown 15 = .ok (.iaload, 1) := by decide +kernel
theorem dX3_sendDown_16 : decode cX3_sendDown 16 = .ok (.istore 5, 2) := by decide +kernel
theorem dX3_sendDown_18 : decode cX3_sendDown 18 = .ok (.iload_n 3, 1) := by decide +kernel
theorem dX3_sendDown_19 : decode cX3_sendDown 19 = .ok (.iconst 1, 1) := by decide +kernel
theorem dX3_sendDown_20 : decode cX3_sendDown 20 = .ok (.isub, 1) := by decide +kernel
theorem dX3_sendDown_21 : decode cX3_sendDown 21 = .ok (.aload_n 1, 1) := by decide +kernel
theorem dX3_sendDown_22 : decode cX3_sendDown 22 = .ok (.getfield 21, 3) := by decide +kernel
theorem dX3_sendDown_25 : decode cX3_sendDown 25 = .ok (.iload 5, 2) := by decide +kernel
theorem dX3_sendDown_27 : decode cX3_sendDown 27 = .ok (.iaload, 1) := by decide +kernel
theorem dX3_sendDown_28 : decode cX3_sendDown 28 = .ok (.isub, 1) := by decide +kernel
theorem dX3_sendDown_29 : decode cX3_sendDown 29 = .ok (.istore 6, 2) := by decide +kernel
theorem dX3_sendDown_31 : decode cX3_sendDown 31 = .ok (.aload_n 0, 1) := by decide +kernel
theorem dX3_sendDown_32 : decode cX3_sendDown 32 = .ok (.getfield 47, 3) := by decide +kernel
theorem dX3_sendDown_35 : decode cX3_sendDown 35 = .ok (.ifCond .le 10, 3) := by decide +kernel
theorem dX3_sendDown_38 : decode cX3_sendDown 38 = .ok (.aload_n 0, 1) := by decide +kernel
theorem dX3_sendDown_39 : decode cX3_sendDown 39 = .ok (.getfield 47, 3) := by decide +kernel
theorem dX3_sendDown_42 : decode cX3_sendDown 42 = .ok (.goto 25, 3) := by decide +kernel
theorem dX3_sendDown_45 : decode cX3_sendDown 45 = .ok (.aload_n 0, 1) := by decide +kernel
theorem dX3_sendDown_46 : decode cX3_sendDown 46 = .ok (.getfield 9, 3) := by decide +kernel
theorem dX3_sendDown_49 : decode cX3_sendDown 49 = .ok (.getfield 50, 3) := by decide +kernel
theorem dX3_sendDown_52 : decode cX3_sendDown 52 = .ok (.iload 4, 2) := by decide +kernel
theorem dX3_sendDown_54 : decode cX3_sendDown 54 = .ok (.iload 5, 2) := by decide +kernel
theorem dX3_sendDown_56 : decode cX3_sendDown 56 = .ok (.iload_n 3, 1) := by decide +kernel
theorem dX3_sendDown_57 : decode cX3_sendDown 57 = .ok (.iload 6, 2) := by decide +kernel
theorem dX3_sendDown_59 : decode cX3_sendDown 59 = .ok (.iconst 0, 1) := by decide +kernel
theorem dX3_sendDown_60 : decode cX3_sendDown 60 = .ok (.aload_n 1, 1) := by decide +kernel
theorem dX3_sendDown_61 : decode cX3_sendDown 61 = .ok (.getfield 56, 3) := by decide +kernel
theorem dX3_sendDown_64 : decode cX3_sendDown 64 = .ok (.invokevirtual 59, 3) := by decide +kernel
theorem dX3_sendDown_67 : decode cX3_sendDown 67 = .ok (.istore 7, 2) := by decide +kernel
theorem dX3_sendDown_69 : decode cX3_sendDown 69 = .ok (.aload_n 1, 1) := by decide +kernel
theorem dX3_sendDown_70 : decode cX3_sendDown 70 = .ok (.getfield 56, 3) := by decide +kernel
theorem dX3_sendDown_73 : decode cX3_sendDown 73 = .ok (.iload 7, 2) := by decide +kernel
theorem dX3_sendDown_75 : decode cX3_sendDown 75 = .ok (.iadd, 1) := by decide +kernel
theorem dX3_sendDown_76 : decode cX3_sendDown 76 = .ok (.istore 8, 2) := by decide +kernel
theorem dX3_sendDown_78 : decode cX3_sendDown 78 = .ok (.iload 6, 2) := by decide +kernel
theorem dX3_sendDown_80 : decode cX3_sendDown 80 = .ok (.ifCond .le 23, 3) := by decide +kernel
theorem dX3_sendDown_83 : decode cX3_sendDown 83 = .ok (.iload 8, 2) := by decide +kernel
theorem dX3_sendDown_85 : decode cX3_sendDown 85 = .ok (.aload_n 1, 1) := by decide +kernel
theorem dX3_sendDown_86 : decode cX3_sendDown 86 = .ok (.getfield 65, 3) := by decide +kernel
theorem dX3_sendDown_89 : decode cX3_sendDown 89 = .ok (.iload 4, 2) := by decide +kernel
theorem dX3_sendDown_91 : decode cX3_sendDown 91 = .ok (.iload_n 3, 1) := by decide +kernel
theorem dX3_sendDown_92 : decode cX3_sendDown 92 = .ok (.iconst 1, 1) := by decide +kernel
theorem dX3_sendDown_93 : decode cX3_sendDown 93 = .ok (.isub, 1) := by decide +kernel
theorem dX3_sendDown_94 : decode cX3_sendDown 94 = .ok (.invokestatic 68, 3) := by decide +kernel
theorem dX3_sendDown_97 : decode cX3_sendDown 97 = .ok (.iaload, 1) := by decide +kernel
theorem dX3_sendDown_98 : decode cX3_sendDown 98 = .ok (.invokestatic 72, 3) := by decide +kernel
theorem dX3_sendDown_101 : decode cX3_sendDown 101 = .ok (.istore 8, 2) := by decide +kernel
theorem dX3_sendDown_103 : decode cX3_sendDown 103 = .ok (.aload_n 1, 1) := by decide +kernel
theorem dX3_sendDown_104 : decode cX3_sendDown 104 = .ok (.getfield 65, 3) := by decide +kernel
theorem dX3_sendDown_107 : decode cX3_sendDown 107 = .ok (.iload 4, 2) := by decide +kernel
theorem dX3_sendDown_109 : decode cX3_sendDown 109 = .ok (.iload_n 3, 1) := by decide +kernel
theorem dX3_sendDown_110 : decode cX3_sendDown 110 = .ok (.invokestatic 68, 3) := by decide +kernel
theorem dX3_sendDown_113 : decode cX3_sendDown 113 = .ok (.iload 8, 2) := by decide +kernel
theorem dX3_sendDown_115 : decode cX3_sendDown 115 = .ok (.iastore, 1) := by decide +kernel
theorem dX3_sendDown_116 : decode cX3_sendDown 116 = .ok (.return_, 1) := by decide +kernel
theorem dX3_sendUp_0 : decode cX3_sendUp 0 = .ok (.aload_n 1, 1) := by decide +kernel
theorem dX3_sendUp_1 : decode cX3_sendUp 1 = .ok (.getfield 15, 3) := by decide +kernel
theorem dX3_sendUp_4 : decode cX3_sendUp 4 = .ok (.iload_n 2, 1) := by decide +kernel
theorem dX3_sendUp_5 : decode cX3_sendUp 5 = .ok (.iconst 1, 1) := by decide +kernel
theorem dX3_sendUp_6 : decode cX3_sendUp 6 = .ok (.iadd, 1) := by decide +kernel
theorem dX3_sendUp_7 : decode cX3_sendUp 7 = .ok (.iaload, 1) := by decide +kernel
theorem dX3_sendUp_8 : decode cX3_sendUp 8 = .ok (.istore 4, 2) := by decide +kernel
theorem dX3_sendUp_10 : decode cX3_sendUp 10 = .ok (.aload_n 1, 1) := by decide +kernel
theorem dX3_sendUp_11 : decode cX3_sendUp 11 = .ok (.getfield 15, 3) := by decide +kernel
theorem dX3_sendUp_14 : decode cX3_sendUp 14 = .ok (.iload_n 2, 1) := by decide +kernel
theorem dX3_sendUp_15 : decode cX3_sendUp 15 = .ok (.iaload, 1) := by decide +kernel
theorem dX3_sendUp_16 : decode cX3_sendUp 16 = .ok (.istore 5, 2) := by decide +kernel
theorem dX3_sendUp_18 : decode cX3_sendUp 18 = .ok (.iload_n 3, 1) := by decide +kernel
theorem dX3_sendUp_19 : decode cX3_sendUp 19 = .ok (.iconst 1, 1) := by decide +kernel
theorem dX3_sendUp_20 : decode cX3_sendUp 20 = .ok (.isub, 1) := by decide +kernel
theorem dX3_sendUp_21 : decode cX3_sendUp 21 = .ok (.aload_n 1, 1) := by decide +kernel
theorem dX3_sendUp_22 : decode cX3_sendUp 22 = .ok (.getfield 41, 3) := by decide +kernel
theorem dX3_sendUp_25 : decode cX3_sendUp 25 = .ok (.iload 5, 2) := by decide +kernel
theorem dX3_sendUp_27 : decode cX3_sendUp 27 = .ok (.iaload, 1) := by decide +kernel
theorem dX3_sendUp_28 : decode cX3_sendUp 28 = .ok (.isub, 1) := by decide +kernel
theorem dX3_sendUp_29 : decode cX3_sendUp 29 = .ok (.istore 6, 2) := by decide +kernel
theorem dX3_sendUp_31 : decode cX3_sendUp 31 = .ok (.aload_n 0, 1) := by decide +kernel
theorem dX3_sendUp_32 : decode cX3_sendUp 32 = .ok (.getfield 47, 3) := by decide +kernel
theorem dX3_sendUp_35 : decode cX3_sendUp 35 = .ok (.ifCond .le 10, 3) := by decide +kernel
theorem dX3_sendUp_38 : decode cX3_sendUp 38 = .ok (.aload_n 0, 1) := by decide +kernel
theorem dX3_sendUp_39 : decode cX3_sendUp 39 = .ok (.getfield 47, 3) := by decide +kernel
theorem dX3_sendUp_42 : decode cX3_sendUp 42 = .ok (.goto 25, 3) := by decide +kernel
theorem dX3_sendUp_45 : decode cX3_sendUp 45 = .ok (.aload_n 0, 1) := by decide +kernel
theorem dX3_sendUp_46 : decode cX3_sendUp 46 = .ok (.getfield 9, 3) := by decide +kernel
theorem dX3_sendUp_49 : decode cX3_sendUp 49 = .ok (.getfield 50, 3) := by decide +kernel
theorem dX3_sendUp_52 : decode cX3_sendUp 52 = .ok (.iload 4, 2) := by decide +kernel
theorem dX3_sendUp_54 : decode cX3_sendUp 54 = .ok (.iload 5, 2) := by decide +kernel
theorem dX3_sendUp_56 : decode cX3_sendUp 56 = .ok (.iload_n 3, 1) := by decide +kernel
theorem dX3_sendUp_57 : decode cX3_sendUp 57 = .ok (.iload 6, 2) := by decide +kernel
theorem dX3_sendUp_59 : decode cX3_sendUp 59 = .ok (.iconst 1, 1) := by decide +kernel
theorem dX3_sendUp_60 : decode cX3_sendUp 60 = .ok (.aload_n 1, 1) := by decide +kernel
theorem dX3_sendUp_61 : decode cX3_sendUp 61 = .ok (.getfield 56, 3) := by decide +kernel
theorem dX3_sendUp_64 : decode cX3_sendUp 64 = .ok (.invokevirtual 59, 3) := by decide +kernel
theorem dX3_sendUp_67 : decode cX3_sendUp 67 = .ok (.istore 7, 2) := by decide +kernel
theorem dX3_sendUp_69 : decode cX3_sendUp 69 = .ok (.aload_n 1, 1) := by decide +kernel
theorem dX3_sendUp_70 : decode cX3_sendUp 70 = .ok (.getfield 56, 3) := by decide +kernel
theorem dX3_sendUp_73 : decode cX3_sendUp 73 = .ok (.iload 7, 2) := by decide +kernel
theorem dX3_sendUp_75 : decode cX3_sendUp 75 = .ok (.iadd, 1) := by decide +kernel
theorem dX3_sendUp_76 : decode cX3_sendUp 76 = .ok (.istore 8, 2) := by decide +kernel
theorem dX3_sendUp_78 : decode cX3_sendUp 78 = .ok (.iload 6, 2) := by decide +kernel
theorem dX3_sendUp_80 : decode cX3_sendUp 80 = .ok (.ifCond .le 23, 3) := by decide +kernel
theorem dX3_sendUp_83 : decode cX3_sendUp 83 = .ok (.iload 8, 2) := by decide +kernel
theorem dX3_sendUp_85 : decode cX3_sendUp 85 = .ok (.aload_n 1, 1) := by decide +kernel
theorem dX3_sendUp_86 : decode cX3_sendUp 86 = .ok (.getfield 77, 3) := by decide +kernel
theorem dX3_sendUp_89 : decode cX3_sendUp 89 = .ok (.iload 5, 2) := by decide +kernel
theorem dX3_sendUp_91 : decode cX3_sendUp 91 = .ok (.iload_n 3, 1) := by decide +kernel
theorem dX3_sendUp_92 : decode cX3_sendUp 92 = .ok (.iconst 1, 1) := by decide +kernel
theorem dX3_sendUp_93 : decode cX3_sendUp 93 = .ok (.isub, 1) := by decide +kernel
theorem dX3_sendUp_94 : decode cX3_sendUp 94 = .ok (.invokestatic 68, 3) := by decide +kernel
theorem dX3_sendUp_97 : decode cX3_sendUp 97 = .ok (.iaload, 1) := by decide +kernel
theorem dX3_sendUp_98 : decode cX3_sendUp 98 = .ok (.invokestatic 72, 3) := by decide +kernel
theorem dX3_sendUp_101 : decode cX3_sendUp 101 = .ok (.istore 8, 2) := by decide +kernel
theorem dX3_sendUp_103 : decode cX3_sendUp 103 = .ok (.aload_n 1, 1) := by decide +kernel
theorem dX3_sendUp_104 : decode cX3_sendUp 104 = .ok (.getfield 77, 3) := by decide +kernel
theorem dX3_sendUp_107 : decode cX3_sendUp 107 = .ok (.iload 5, 2) := by decide +kernel
theorem dX3_sendUp_109 : decode cX3_sendUp 109 = .ok (.iload_n 3, 1) := by decide +kernel
theorem dX3_sendUp_110 : decode cX3_sendUp 110 = .ok (.invokestatic 68, 3) := by decide +kernel
theorem dX3_sendUp_113 : decode cX3_sendUp 113 = .ok (.iload 8, 2) := by decide +kernel
theorem dX3_sendUp_115 : decode cX3_sendUp 115 = .ok (.iastore, 1) := by decide +kernel
theorem dX3_sendUp_116 : decode cX3_sendUp 116 = .ok (.return_, 1) := by decide +kernel
theorem dX3_step_0 : decode cX3_step 0 = .ok (.aload_n 1, 1) := by decide +kernel
theorem dX3_step_1 : decode cX3_step 1 = .ok (.dup, 1) := by decide +kernel
theorem dX3_step_2 : decode cX3_step 2 = .ok (.getfield 56, 3) := by decide +kernel
theorem dX3_step_5 : decode cX3_step 5 = .ok (.iconst 1, 1) := by decide +kernel
theorem dX3_step_6 : decode cX3_step 6 = .ok (.iadd, 1) := by decide +kernel
theorem dX3_step_7 : decode cX3_step 7 = .ok (.putfield 56, 3) := by decide +kernel
theorem dX3_step_10 : decode cX3_step 10 = .ok (.iconst 0, 1) := by decide +kernel
theorem dX3_step_11 : decode cX3_step 11 = .ok (.istore_n 2, 1) := by decide +kernel
theorem dX3_step_12 : decode cX3_step 12 = .ok (.iconst 0, 1) := by decide +kernel
theorem dX3_step_13 : decode cX3_step 13 = .ok (.istore_n 3, 1) := by decide +kernel
theorem dX3_step_14 : decode cX3_step 14 = .ok (.iload_n 3, 1) := by decide +kernel
theorem dX3_step_15 : decode cX3_step 15 = .ok (.aload_n 1, 1) := by decide +kernel
theorem dX3_step_16 : decode cX3_step 16 = .ok (.getfield 24, 3) := by decide +kernel
theorem dX3_step_19 : decode cX3_step 19 = .ok (.iconst 1, 1) := by decide +kernel
theorem dX3_step_20 : decode cX3_step 20 = .ok (.isub, 1) := by decide +kernel
theorem dX3_step_21 : decode cX3_step 21 = .ok (.if_icmp .ge 18, 3) := by decide +kernel
theorem dX3_step_24 : decode cX3_step 24 = .ok (.iload_n 2, 1) := by decide +kernel
theorem dX3_step_25 : decode cX3_step 25 = .ok (.aload_n 0, 1) := by decide +kernel
theorem dX3_step_26 : decode cX3_step 26 = .ok (.aload_n 1, 1) := by decide +kernel
theorem dX3_step_27 : decode cX3_step 27 = .ok (.iload_n 3, 1) := by decide +kernel
theorem dX3_step_28 : decode cX3_step 28 = .ok (.invokevirtual 80, 3) := by decide +kernel
theorem dX3_step_31 : decode cX3_step 31 = .ok (.iadd, 1) := by decide +kernel
theorem dX3_step_32 : decode cX3_step 32 = .ok (.istore_n 2, 1) := by decide +kernel
theorem dX3_step_33 : decode cX3_step 33 = .ok (.iinc 3 1, 3) := by decide +kernel
theorem dX3_step_36 : decode cX3_step 36 = .ok (.goto (-22), 3) := by decide +kernel
theorem dX3_step_39 : decode cX3_step 39 = .ok (.aload_n 1, 1) := by decide +kernel
theorem dX3_step_40 : decode cX3_step 40 = .ok (.getfield 24, 3) := by decide +kernel
theorem dX3_step_43 : decode cX3_step 43 = .ok (.iconst 2, 1) := by decide +kernel
theorem dX3_step_44 : decode cX3_step 44 = .ok (.isub, 1) := by decide +kernel
theorem dX3_step_45 : decode cX3_step 45 = .ok (.istore_n 3, 1) := by decide +kernel
theorem dX3_step_46 : decode cX3_step 46 = .ok (.iload_n 3, 1) := by decide +kernel
theorem dX3_step_47 : decode cX3_step 47 = .ok (.ifCond .lt 18, 3) := by decide +kernel
theorem dX3_step_50 : decode cX3_step 50 = .ok (.iload_n 2, 1) := by decide +kernel
theorem dX3_step_51 : decode cX3_step 51 = .ok (.aload_n 0, 1) := by decide +kernel
theorem dX3_step_52 : decode cX3_step 52 = .ok (.aload_n 1, 1) := by decide +kernel
theorem dX3_step_53 : decode cX3_step 53 = .ok (.iload_n 3, 1) := by decide +kernel
theorem dX3_step_54 : decode cX3_step 54 = .ok (.invokevirtual 84, 3) := by decide +kernel
theorem dX3_step_57 : decode cX3_step 57 = .ok (.iadd, 1) := by decide +kernel
theorem dX3_step_58 : decode cX3_step 58 = .ok (.istore_n 2, 1) := by decide +kernel
theorem dX3_step_59 : decode cX3_step 59 = .ok (.iinc 3 (-1), 3) := by decide +kernel
theorem dX3_step_62 : decode cX3_step 62 = .ok (.goto (-16), 3) := by decide +kernel
theorem dX3_step_65 : decode cX3_step 65 = .ok (.aload_n 0, 1) := by decide +kernel
theorem dX3_step_66 : decode cX3_step 66 = .ok (.aload_n 1, 1) := by decide +kernel
theorem dX3_step_67 : decode cX3_step 67 = .ok (.invokevirtual 87, 3) := by decide +kernel
theorem dX3_step_70 : decode cX3_step 70 = .ok (.iload_n 2, 1) := by decide +kernel
theorem dX3_step_71 : decode cX3_step 71 = .ok (.ireturn, 1) := by decide +kernel
theorem dX3_bringDown_0 : decode cX3_bringDown 0 = .ok (.aload_n 1, 1) := by decide +kernel
theorem dX3_bringDown_1 : decode cX3_bringDown 1 = .ok (.getfield 15, 3) := by decide +kernel
theorem dX3_bringDown_4 : decode cX3_bringDown 4 = .ok (.iload_n 2, 1) := by decide +kernel
theorem dX3_bringDown_5 : decode cX3_bringDown 5 = .ok (.iaload, 1) := by decide +kernel
theorem dX3_bringDown_6 : decode cX3_bringDown 6 = .ok (.istore_n 3, 1) := by decide +kernel
theorem dX3_bringDown_7 : decode cX3_bringDown 7 = .ok (.aload_n 1, 1) := by decide +kernel
theorem dX3_bringDown_8 : decode cX3_bringDown 8 = .ok (.getfield 21, 3) := by decide +kernel
theorem dX3_bringDown_11 : decode cX3_bringDown 11 = .ok (.iload_n 3, 1) := by decide +kernel
theorem dX3_bringDown_12 : decode cX3_bringDown 12 = .ok (.iaload, 1) := by decide +kernel
theorem dX3_bringDown_13 : decode cX3_bringDown 13 = .ok (.istore 4, 2) := by decide +kernel
theorem dX3_bringDown_15 : decode cX3_bringDown 15 = .ok (.aload_n 1, 1) := by decide +kernel
theorem dX3_bringDown_16 : decode cX3_bringDown 16 = .ok (.getfield 21, 3) := by decide +kernel
theorem dX3_bringDown_19 : decode cX3_bringDown 19 = .ok (.aload_n 1, 1) := by decide +kernel
theorem dX3_bringDown_20 : decode cX3_bringDown 20 = .ok (.getfield 15, 3) := by decide +kernel
theorem dX3_bringDown_23 : decode cX3_bringDown 23 = .ok (.iload_n 2, 1) := by decide +kernel
theorem dX3_bringDown_24 : decode cX3_bringDown 24 = .ok (.iconst 1, 1) := by decide +kernel
theorem dX3_bringDown_25 : decode cX3_bringDown 25 = .ok (.iadd, 1) := by decide +kernel
theorem dX3_bringDown_26 : decode cX3_bringDown 26 = .ok (.iaload, 1) := by decide +kernel
theorem dX3_bringDown_27 : decode cX3_bringDown 27 = .ok (.iaload, 1) := by decide +kernel
theorem dX3_bringDown_28 : decode cX3_bringDown 28 = .ok (.iconst 1, 1) := by decide +kernel
theorem dX3_bringDown_29 : decode cX3_bringDown 29 = .ok (.iadd, 1) := by decide +kernel
theorem dX3_bringDown_30 : decode cX3_bringDown 30 = .ok (.istore 5, 2) := by decide +kernel
theorem dX3_bringDown_32 : decode cX3_bringDown 32 = .ok (.iload 5, 2) := by decide +kernel
theorem dX3_bringDown_34 : decode cX3_bringDown 34 = .ok (.istore 6, 2) := by decide +kernel
theorem dX3_bringDown_36 : decode cX3_bringDown 36 = .ok (.iload 6, 2) := by decide +kernel
theorem dX3_bringDown_38 : decode cX3_bringDown 38 = .ok (.iload 4, 2) := by decide +kernel
theorem dX3_bringDown_40 : decode cX3_bringDown 40 = .ok (.if_icmp .gt 37, 3) := by decide +kernel
theorem dX3_bringDown_43 : decode cX3_bringDown 43 = .ok (.aload_n 1, 1) := by decide +kernel
theorem dX3_bringDown_44 : decode cX3_bringDown 44 = .ok (.getfield 65, 3) := by decide +kernel
theorem dX3_bringDown_47 : decode cX3_bringDown 47 = .ok (.iload_n 3, 1) := by decide +kernel
theorem dX3_bringDown_48 : decode cX3_bringDown 48 = .ok (.iload 6, 2) := by decide +kernel
theorem dX3_bringDown_50 : decode cX3_bringDown 50 = .ok (.invokestatic 68, 3) := by decide +kernel
theorem dX3_bringDown_53 : decode cX3_bringDown 53 = .ok (.iaload, 1) := by decide +kernel
theorem dX3_bringDown_54 : decode cX3_bringDown 54 = .ok (.aload_n 1, 1) := by decide +kernel
theorem dX3_bringDown_55 : decode cX3_bringDown 55 = .ok (.getfield 56, 3) := by decide +kernel
theorem dX3_bringDown_58 : decode cX3_bringDown 58 = .ok (.if_icmp .gt 19, 3) := by decide +kernel
theorem dX3_bringDown_61 : decode cX3_bringDown 61 = .ok (.aload_n 0, 1) := by decide +kernel
theorem dX3_bringDown_62 : decode cX3_bringDown 62 = .ok (.aload_n 1, 1) := by decide +kernel
theorem dX3_bringDown_63 : decode cX3_bringDown 63 = .ok (.iload_n 2, 1) := by decide +kernel
theorem dX3_bringDown_64 : decode cX3_bringDown 64 = .ok (.iconst 1, 1) := by decide +kernel
theorem dX3_bringDown_65 : decode cX3_bringDown 65 = .ok (.iadd, 1) := by decide +kernel
theorem dX3_bringDown_66 : decode cX3_bringDown 66 = .ok (.iload 6, 2) := by decide +kernel
theorem dX3_bringDown_68 : decode cX3_bringDown 68 = .ok (.invokevirtual 34, 3) := by decide +kernel
theorem dX3_bringDown_71 : decode cX3_bringDown 71 = .ok (.iinc 6 1, 3) := by decide +kernel
theorem dX3_bringDown_74 : decode cX3_bringDown 74 = .ok (.goto (-38), 3) := by decide +kernel
theorem dX3_bringDown_77 : decode cX3_bringDown 77 = .ok (.iload 6, 2) := by decide +kernel
theorem dX3_bringDown_79 : decode cX3_bringDown 79 = .ok (.iload 5, 2) := by decide +kernel
theorem dX3_bringDown_81 : decode cX3_bringDown 81 = .ok (.isub, 1) := by decide +kernel
theorem dX3_bringDown_82 : decode cX3_bringDown 82 = .ok (.ireturn, 1) := by decide +kernel
theorem dX3_bringUp_0 : decode cX3_bringUp 0 = .ok (.aload_n 1, 1) := by decide +kernel
theorem dX3_bringUp_1 : decode cX3_bringUp 1 = .ok (.getfield 15, 3) := by decide +kernel
theorem dX3_bringUp_4 : decode cX3_bringUp 4 = .ok (.iload_n 2, 1) := by decide +kernel
theorem dX3_bringUp_5 : decode cX3_bringUp 5 = .ok (.iaload, 1) := by decide +kernel
theorem dX3_bringUp_6 : decode cX3_bringUp 6 = .ok (.istore_n 3, 1) := by decide +kernel
theorem dX3_bringUp_7 : decode cX3_bringUp 7 = .ok (.aload_n 1, 1) := by decide +kernel
theorem dX3_bringUp_8 : decode cX3_bringUp 8 = .ok (.getfield 41, 3) := by decide +kernel
theorem dX3_bringUp_11 : decode cX3_bringUp 11 = .ok (.aload_n 1, 1) := by decide +kernel
theorem dX3_bringUp_12 : decode cX3_bringUp 12 = .ok (.getfield 15, 3) := by decide +kernel
theorem dX3_bringUp_15 : decode cX3_bringUp 15 = .ok (.iload_n 2, 1) := by decide +kernel
theorem dX3_bringUp_16 : decode cX3_bringUp 16 = .ok (.iconst 1, 1) := by decide +kernel
theorem dX3_bringUp_17 : decode cX3_bringUp 17 = .ok (.iadd, 1) := by decide +kernel
theorem dX3_bringUp_18 : decode cX3_bringUp 18 = .ok (.iaload, 1) := by decide +kernel
theorem dX3_bringUp_19 : decode cX3_bringUp 19 = .ok (.iaload, 1) := by decide +kernel
theorem dX3_bringUp_20 : decode cX3_bringUp 20 = .ok (.istore 4, 2) := by decide +kernel
theorem dX3_bringUp_22 : decode cX3_bringUp 22 = .ok (.aload_n 1, 1) := by decide +kernel
theorem dX3_bringUp_23 : decode cX3_bringUp 23 = .ok (.getfield 41, 3) := by decide +kernel
theorem dX3_bringUp_26 : decode cX3_bringUp 26 = .ok (.iload_n 3, 1) := by decide +kernel
theorem dX3_bringUp_27 : decode cX3_bringUp 27 = .ok (.iaload, 1) := by decide +kernel
theorem dX3_bringUp_28 : decode cX3_bringUp 28 = .ok (.iconst 1, 1) := by decide +kernel
theorem dX3_bringUp_29 : decode cX3_bringUp 29 = .ok (.iadd, 1) := by decide +kernel
theorem dX3_bringUp_30 : decode cX3_bringUp 30 = .ok (.istore 5, 2) := by decide +kernel
theorem dX3_bringUp_32 : decode cX3_bringUp 32 = .ok (.iload 5, 2) := by decide +kernel
theorem dX3_bringUp_34 : decode cX3_bringUp 34 = .ok (.istore 6, 2) := by decide +kernel
theorem dX3_bringUp_36 : decode cX3_bringUp 36 = .ok (.iload 6, 2) := by decide +kernel
theorem dX3_bringUp_38 : decode cX3_bringUp 38 = .ok (.iload 4, 2) := by decide +kernel
theorem dX3_bringUp_40 : decode cX3_bringUp 40 = .ok (.if_icmp .gt 49, 3) := by decide +kernel
theorem dX3_bringUp_43 : decode cX3_bringUp 43 = .ok (.aload_n 1, 1) := by decide +kernel
theorem dX3_bringUp_44 : decode cX3_bringUp 44 = .ok (.getfield 77, 3) := by decide +kernel
theorem dX3_bringUp_47 : decode cX3_bringUp 47 = .ok (.iload_n 3, 1) := by decide +kernel
theorem dX3_bringUp_48 : decode cX3_bringUp 48 = .ok (.iload 6, 2) := by decide +kernel
theorem dX3_bringUp_50 : decode cX3_bringUp 50 = .ok (.invokestatic 68, 3) := by decide +kernel
theorem dX3_bringUp_53 : decode cX3_bringUp 53 = .ok (.iaload, 1) := by decide +kernel
theorem dX3_bringUp_54 : decode cX3_bringUp 54 = .ok (.aload_n 1, 1) := by decide +kernel
theorem dX3_bringUp_55 : decode cX3_bringUp 55 = .ok (.getfield 56, 3) := by decide +kernel
theorem dX3_bringUp_58 : decode cX3_bringUp 58 = .ok (.if_icmp .gt 31, 3) := by decide +kernel
theorem dX3_bringUp_61 : decode cX3_bringUp 61 = .ok (.aload_n 1, 1) := by decide +kernel
theorem dX3_bringUp_62 : decode cX3_bringUp 62 = .ok (.getfield 41, 3) := by decide +kernel
theorem dX3_bringUp_65 : decode cX3_bringUp 65 = .ok (.iload_n 3, 1) := by decide +kernel
theorem dX3_bringUp_66 : decode cX3_bringUp 66 = .ok (.iload 6, 2) := by decide +kernel
theorem dX3_bringUp_68 : decode cX3_bringUp 68 = .ok (.iastore, 1) := by decide +kernel
theorem dX3_bringUp_69 : decode cX3_bringUp 69 = .ok (.iload_n 2, 1) := by decide +kernel
theorem dX3_bringUp_70 : decode cX3_bringUp 70 = .ok (.ifCond .le 13, 3) := by decide +kernel
theorem dX3_bringUp_73 : decode cX3_bringUp 73 = .ok (.aload_n 0, 1) := by decide +kernel
theorem dX3_bringUp_74 : decode cX3_bringUp 74 = .ok (.aload_n 1, 1) := by decide +kernel
theorem dX3_bringUp_75 : decode cX3_bringUp 75 = .ok (.iload_n 2, 1) := by decide +kernel
theorem dX3_bringUp_76 : decode cX3_bringUp 76 = .ok (.iconst 1, 1) := by decide +kernel
theorem dX3_bringUp_77 : decode cX3_bringUp 77 = .ok (.isub, 1) := by decide +kernel
theorem dX3_bringUp_78 : decode cX3_bringUp 78 = .ok (.iload 6, 2) := by decide +kernel
theorem dX3_bringUp_80 : decode cX3_bringUp 80 = .ok (.invokevirtual 44, 3) := by decide +kernel
theorem dX3_bringUp_83 : decode cX3_bringUp 83 = .ok (.iinc 6 1, 3) := by decide +kernel
theorem dX3_bringUp_86 : decode cX3_bringUp 86 = .ok (.goto (-50), 3) := by decide +kernel
theorem dX3_bringUp_89 : decode cX3_bringUp 89 = .ok (.iload 6, 2) := by decide +kernel
theorem dX3_bringUp_91 : decode cX3_bringUp 91 = .ok (.iload 5, 2) := by decide +kernel
theorem dX3_bringUp_93 : decode cX3_bringUp 93 = .ok (.isub, 1) := by decide +kernel
theorem dX3_bringUp_94 : decode cX3_bringUp 94 = .ok (.ireturn, 1) := by decide +kernel
theorem dX3_goOnCopying_0 : decode cX3_goOnCopying 0 = .ok (.aload_n 1, 1) := by decide +kernel
theorem dX3_goOnCopying_1 : decode cX3_goOnCopying 1 = .ok (.getfield 91, 3) := by decide +kernel
theorem dX3_goOnCopying_4 : decode cX3_goOnCopying 4 = .ok (.iconst (-1), 1) := by decide +kernel
theorem dX3_goOnCopying_5 : decode cX3_goOnCopying 5 = .ok (.if_icmp .ne 4, 3) := by decide +kernel
theorem dX3_goOnCopying_8 : decode cX3_goOnCopying 8 = .ok (.return_, 1) := by decide +kernel
theorem dX3_goOnCopying_9 : decode cX3_goOnCopying 9 = .ok (.aload_n 1, 1) := by decide +kernel
theorem dX3_goOnCopying_10 : decode cX3_goOnCopying 10 = .ok (.dup, 1) := by decide +kernel
theorem dX3_goOnCopying_11 : decode cX3_goOnCopying 11 = .ok (.getfield 94, 3) := by decide +kernel
theorem dX3_goOnCopying_14 : decode cX3_goOnCopying 14 = .ok (.iconst 1, 1) := by decide +kernel
theorem dX3_goOnCopying_15 : decode cX3_goOnCopying 15 = .ok (.isub, 1) := by decide +kernel
theorem dX3_goOnCopying_16 : decode cX3_goOnCopying 16 = .ok (.putfield 94, 3) := by decide +kernel
theorem dX3_goOnCopying_19 : decode cX3_goOnCopying 19 = .ok (.aload_n 1, 1) := by decide +kernel
theorem dX3_goOnCopying_20 : decode cX3_goOnCopying 20 = .ok (.getfield 94, 3) := by decide +kernel
theorem dX3_goOnCopying_23 : decode cX3_goOnCopying 23 = .ok (.ifCond .gt 19, 3) := by decide +kernel
theorem dX3_goOnCopying_26 : decode cX3_goOnCopying 26 = .ok (.aload_n 1, 1) := by decide +kernel
theorem dX3_goOnCopying_27 : decode cX3_goOnCopying 27 = .ok (.getfield 24, 3) := by decide +kernel
theorem dX3_goOnCopying_30 : decode cX3_goOnCopying 30 = .ok (.ifCond .eq 12, 3) := by decide +kernel
theorem dX3_goOnCopying_33 : decode cX3_goOnCopying 33 = .ok (.aload_n 1, 1) := by decide +kernel
theorem dX3_goOnCopying_34 : decode cX3_goOnCopying 34 = .ok (.getfield 24, 3) := by decide +kernel
theorem dX3_goOnCopying_37 : decode cX3_goOnCopying 37 = .ok (.bipush 6, 2) := by decide +kernel
theorem dX3_goOnCopying_39 : decode cX3_goOnCopying 39 = .ok (.if_icmp .lt 4, 3) := by decide +kernel
theorem dX3_goOnCopying_42 : decode cX3_goOnCopying 42 = .ok (.return_, 1) := by decide +kernel
theorem dX3_goOnCopying_43 : decode cX3_goOnCopying 43 = .ok (.aload_n 1, 1) := by decide +kernel
theorem dX3_goOnCopying_44 : decode cX3_goOnCopying 44 = .ok (.getfield 21, 3) := by decide +kernel
theorem dX3_goOnCopying_47 : decode cX3_goOnCopying 47 = .ok (.aload_n 1, 1) := by decide +kernel
theorem dX3_goOnCopying_48 : decode cX3_goOnCopying 48 = .ok (.getfield 15, 3) := by decide +kernel
theorem dX3_goOnCopying_51 : decode cX3_goOnCopying 51 = .ok (.aload_n 1, 1) := by decide +kernel
theorem dX3_goOnCopying_52 : decode cX3_goOnCopying 52 = .ok (.getfield 24, 3) := by decide +kernel
theorem dX3_goOnCopying_55 : decode cX3_goOnCopying 55 = .ok (.iconst 1, 1) := by decide +kernel
theorem dX3_goOnCopying_56 : decode cX3_goOnCopying 56 = .ok (.isub, 1) := by decide +kernel
theorem dX3_goOnCopying_57 : decode cX3_goOnCopying 57 = .ok (.iaload, 1) := by decide +kernel
theorem dX3_goOnCopying_58 : decode cX3_goOnCopying 58 = .ok (.iaload, 1) := by decide +kernel
theorem dX3_goOnCopying_59 : decode cX3_goOnCopying 59 = .ok (.istore_n 2, 1) := by decide +kernel
theorem dX3_goOnCopying_60 : decode cX3_goOnCopying 60 = .ok (.aload_n 1, 1) := by decide +kernel
theorem dX3_goOnCopying_61 : decode cX3_goOnCopying 61 = .ok (.getfield 15, 3) := by decide +kernel
theorem dX3_goOnCopying_64 : decode cX3_goOnCopying 64 = .ok (.aload_n 1, 1) := by decide +kernel
theorem dX3_goOnCopying_65 : decode cX3_goOnCopying 65 = .ok (.getfield 24, 3) := by decide +kernel
theorem dX3_goOnCopying_68 : decode cX3_goOnCopying 68 = .ok (.aload_n 1, 1) := by decide +kernel
theorem dX3_goOnCopying_69 : decode cX3_goOnCopying 69 = .ok (.getfield 91, 3) := by decide +kernel
theorem dX3_goOnCopying_72 : decode cX3_goOnCopying 72 = .ok (.iastore, 1) := by decide +kernel
theorem dX3_goOnCopying_73 : decode cX3_goOnCopying 73 = .ok (.aload_n 1, 1) := by decide +kernel
theorem dX3_goOnCopying_74 : decode cX3_goOnCopying 74 = .ok (.dup, 1) := by decide +kernel
theorem dX3_goOnCopying_75 : decode cX3_goOnCopying 75 = .ok (.getfield 24, 3) := by decide +kernel
theorem dX3_goOnCopying_78 : decode cX3_goOnCopying 78 = .ok (.iconst 1, 1) := by decide +kernel
theorem dX3_goOnCopying_79 : decode cX3_goOnCopying 79 = .ok (.iadd, 1) := by decide +kernel
theorem dX3_goOnCopying_80 : decode cX3_goOnCopying 80 = .ok (.putfield 24, 3) := by decide +kernel
theorem dX3_goOnCopying_83 : decode cX3_goOnCopying 83 = .ok (.aload_n 1, 1) := by decide +kernel
theorem dX3_goOnCopying_84 : decode cX3_goOnCopying 84 = .ok (.getfield 21, 3) := by decide +kernel
theorem dX3_goOnCopying_87 : decode cX3_goOnCopying 87 = .ok (.aload_n 1, 1) := by decide +kernel
theorem dX3_goOnCopying_88 : decode cX3_goOnCopying 88 = .ok (.getfield 91, 3) := by decide +kernel
theorem dX3_goOnCopying_91 : decode cX3_goOnCopying 91 = .ok (.iload_n 2, 1) := by decide +kernel
theorem dX3_goOnCopying_92 : decode cX3_goOnCopying 92 = .ok (.iastore, 1) := by decide +kernel
theorem dX3_goOnCopying_93 : decode cX3_goOnCopying 93 = .ok (.aload_n 1, 1) := by decide +kernel
theorem dX3_goOnCopying_94 : decode cX3_goOnCopying 94 = .ok (.getfield 41, 3) := by decide +kernel
theorem dX3_goOnCopying_97 : decode cX3_goOnCopying 97 = .ok (.aload_n 1, 1) := by decide +kernel
theorem dX3_goOnCopying_98 : decode cX3_goOnCopying 98 = .ok (.getfield 91, 3) := by decide +kernel
theorem dX3_goOnCopying_101 : decode cX3_goOnCopying 101 = .ok (.iload_n 2, 1) := by decide +kernel
theorem dX3_goOnCopying_102 : decode cX3_goOnCopying 102 = .ok (.iastore, 1) := by decide +kernel
theorem dX3_goOnCopying_103 : decode cX3_goOnCopying 103 = .ok (.aload_n 1, 1) := by decide +kernel
theorem dX3_goOnCopying_104 : decode cX3_goOnCopying 104 = .ok (.iconst (-1), 1) := by decide +kernel
theorem dX3_goOnCopying_105 : decode cX3_goOnCopying 105 = .ok (.putfield 91, 3) := by decide +kernel
theorem dX3_goOnCopying_108 : decode cX3_goOnCopying 108 = .ok (.aload_n 1, 1) := by decide +kernel
theorem dX3_goOnCopying_109 : decode cX3_goOnCopying 109 = .ok (.iconst 0, 1) := by decide +kernel
theorem dX3_goOnCopying_110 : decode cX3_goOnCopying 110 = .ok (.putfield 94, 3) := by decide +kernel
theorem dX3_goOnCopying_113 : decode cX3_goOnCopying 113 = .ok (.return_, 1) := by decide +kernel
theorem dX3_draw_0 : decode cX3_draw 0 = .ok (.aload_n 1, 1) := by decide +kernel
theorem dX3_draw_1 : decode cX3_draw 1 = .ok (.aload_n 1, 1) := by decide +kernel
theorem dX3_draw_2 : decode cX3_draw 2 = .ok (.getfield 97, 3) := by decide +kernel
theorem dX3_draw_5 : decode cX3_draw 5 = .ok (.sipush 137, 3) := by decide +kernel
theorem dX3_draw_8 : decode cX3_draw 8 = .ok (.imul, 1) := by decide +kernel
theorem dX3_draw_9 : decode cX3_draw 9 = .ok (.bipush 71, 2) := by decide +kernel
theorem dX3_draw_11 : decode cX3_draw 11 = .ok (.iadd, 1) := by decide +kernel
theorem dX3_draw_12 : decode cX3_draw 12 = .ok (.sipush 1000, 3) := by decide +kernel
theorem dX3_draw_15 : decode cX3_draw 15 = .ok (.irem, 1) := by decide +kernel
theorem dX3_draw_16 : decode cX3_draw 16 = .ok (.putfield 97, 3) := by decide +kernel
theorem dX3_draw_19 : decode cX3_draw 19 = .ok (.aload_n 1, 1) := by decide +kernel
theorem dX3_draw_20 : decode cX3_draw 20 = .ok (.getfield 97, 3) := by decide +kernel
theorem dX3_draw_23 : decode cX3_draw 23 = .ok (.bipush 100, 2) := by decide +kernel
theorem dX3_draw_25 : decode cX3_draw 25 = .ok (.irem, 1) := by decide +kernel
theorem dX3_draw_26 : decode cX3_draw 26 = .ok (.aload_n 0, 1) := by decide +kernel
theorem dX3_draw_27 : decode cX3_draw 27 = .ok (.getfield 9, 3) := by decide +kernel
theorem dX3_draw_30 : decode cX3_draw 30 = .ok (.getfield 100, 3) := by decide +kernel
theorem dX3_draw_33 : decode cX3_draw 33 = .ok (.if_icmp .ge 31, 3) := by decide +kernel
theorem dX3_draw_36 : decode cX3_draw 36 = .ok (.aload_n 1, 1) := by decide +kernel
theorem dX3_draw_37 : decode cX3_draw 37 = .ok (.getfield 24, 3) := by decide +kernel
theorem dX3_draw_40 : decode cX3_draw 40 = .ok (.iconst 2, 1) := by decide +kernel
theorem dX3_draw_41 : decode cX3_draw 41 = .ok (.if_icmp .lt 23, 3) := by decide +kernel
theorem dX3_draw_44 : decode cX3_draw 44 = .ok (.aload_n 0, 1) := by decide +kernel
theorem dX3_draw_45 : decode cX3_draw 45 = .ok (.aload_n 1, 1) := by decide +kernel
theorem dX3_draw_46 : decode cX3_draw 46 = .ok (.aload_n 1, 1) := by decide +kernel
theorem dX3_draw_47 : decode cX3_draw 47 = .ok (.getfield 15, 3) := by decide +kernel
theorem dX3_draw_50 : decode cX3_draw 50 = .ok (.aload_n 1, 1) := by decide +kernel
theorem dX3_draw_51 : decode cX3_draw 51 = .ok (.getfield 97, 3) := by decide +kernel
theorem dX3_draw_54 : decode cX3_draw 54 = .ok (.aload_n 1, 1) := by decide +kernel
theorem dX3_draw_55 : decode cX3_draw 55 = .ok (.getfield 24, 3) := by decide +kernel
theorem dX3_draw_58 : decode cX3_draw 58 = .ok (.irem, 1) := by decide +kernel
theorem dX3_draw_59 : decode cX3_draw 59 = .ok (.iaload, 1) := by decide +kernel
theorem dX3_draw_60 : decode cX3_draw 60 = .ok (.invokevirtual 103, 3) := by decide +kernel
theorem dX3_draw_63 : decode cX3_draw 63 = .ok (.pop, 1) := by decide +kernel
theorem dX3_draw_64 : decode cX3_draw 64 = .ok (.return_, 1) := by decide +kernel
theorem dX3_takeOut_0 : decode cX3_takeOut 0 = .ok (.aload_n 1, 1) := by decide +kernel
theorem dX3_takeOut_1 : decode cX3_takeOut 1 = .ok (.iload_n 2, 1) := by decide +kernel
theorem dX3_takeOut_2 : decode cX3_takeOut 2 = .ok (.invokevirtual 106, 3) := by decide +kernel
theorem dX3_takeOut_5 : decode cX3_takeOut 5 = .ok (.istore_n 3, 1) := by decide +kernel
theorem dX3_takeOut_6 : decode cX3_takeOut 6 = .ok (.iload_n 3, 1) := by decide +kernel
theorem dX3_takeOut_7 : decode cX3_takeOut 7 = .ok (.ifCond .lt 11, 3) := by decide +kernel
theorem dX3_takeOut_10 : decode cX3_takeOut 10 = .ok (.aload_n 1, 1) := by decide +kernel
theorem dX3_takeOut_11 : decode cX3_takeOut 11 = .ok (.getfield 24, 3) := by decide +kernel
theorem dX3_takeOut_14 : decode cX3_takeOut 14 = .ok (.iconst 2, 1) := by decide +kernel
theorem dX3_takeOut_15 : decode cX3_takeOut 15 = .ok (.if_icmp .ge 5, 3) := by decide +kernel
theorem dX3_takeOut_18 : decode cX3_takeOut 18 = .ok (.iconst 0, 1) := by decide +kernel
theorem dX3_takeOut_19 : decode cX3_takeOut 19 = .ok (.ireturn, 1) := by decide +kernel
theorem dX3_takeOut_20 : decode cX3_takeOut 20 = .ok (.aload_n 1, 1) := by decide +kernel
theorem dX3_takeOut_21 : decode cX3_takeOut 21 = .ok (.getfield 21, 3) := by decide +kernel
theorem dX3_takeOut_24 : decode cX3_takeOut 24 = .ok (.iload_n 2, 1) := by decide +kernel
theorem dX3_takeOut_25 : decode cX3_takeOut 25 = .ok (.iaload, 1) := by decide +kernel
theorem dX3_takeOut_26 : decode cX3_takeOut 26 = .ok (.istore 4, 2) := by decide +kernel
theorem dX3_takeOut_28 : decode cX3_takeOut 28 = .ok (.iload_n 3, 1) := by decide +kernel
theorem dX3_takeOut_29 : decode cX3_takeOut 29 = .ok (.istore 5, 2) := by decide +kernel
theorem dX3_takeOut_31 : decode cX3_takeOut 31 = .ok (.iload 5, 2) := by decide +kernel
theorem dX3_takeOut_33 : decode cX3_takeOut 33 = .ok (.aload_n 1, 1) := by decide +kernel
theorem dX3_takeOut_34 : decode cX3_takeOut 34 = .ok (.getfield 24, 3) := by decide +kernel
theorem dX3_takeOut_37 : decode cX3_takeOut 37 = .ok (.iconst 1, 1) := by decide +kernel
theorem dX3_takeOut_38 : decode cX3_takeOut 38 = .ok (.isub, 1) := by decide +kernel
theorem dX3_takeOut_39 : decode cX3_takeOut 39 = .ok (.if_icmp .ge 25, 3) := by decide +kernel
theorem dX3_takeOut_42 : decode cX3_takeOut 42 = .ok (.aload_n 1, 1) := by decide +kernel
theorem dX3_takeOut_43 : decode cX3_takeOut 43 = .ok (.getfield 15, 3) := by decide +kernel
theorem dX3_takeOut_46 : decode cX3_takeOut 46 = .ok (.iload 5, 2) := by decide +kernel
theorem dX3_takeOut_48 : decode cX3_takeOut 48 = .ok (.aload_n 1, 1) := by decide +kernel
theorem dX3_takeOut_49 : decode cX3_takeOut 49 = .ok (.getfield 15, 3) := by decide +kernel
theorem dX3_takeOut_52 : decode cX3_takeOut 52 = .ok (.iload 5, 2) := by decide +kernel
theorem dX3_takeOut_54 : decode cX3_takeOut 54 = .ok (.iconst 1, 1) := by decide +kernel
theorem dX3_takeOut_55 : decode cX3_takeOut 55 = .ok (.iadd, 1) := by decide +kernel
theorem dX3_takeOut_56 : decode cX3_takeOut 56 = .ok (.iaload, 1) := by decide +kernel
theorem dX3_takeOut_57 : decode cX3_takeOut 57 = .ok (.iastore, 1) := by decide +kernel
theorem dX3_takeOut_58 : decode cX3_takeOut 58 = .ok (.iinc 5 1, 3) := by decide +kernel
theorem dX3_takeOut_61 : decode cX3_takeOut 61 = .ok (.goto (-30), 3) := by decide +kernel
theorem dX3_takeOut_64 : decode cX3_takeOut 64 = .ok (.aload_n 1, 1) := by decide +kernel
theorem dX3_takeOut_65 : decode cX3_takeOut 65 = .ok (.dup, 1) := by decide +kernel
theorem dX3_takeOut_66 : decode cX3_takeOut 66 = .ok (.getfield 24, 3) := by decide +kernel
theorem dX3_takeOut_69 : decode cX3_takeOut 69 = .ok (.iconst 1, 1) := by decide +kernel
theorem dX3_takeOut_70 : decode cX3_takeOut 70 = .ok (.isub, 1) := by decide +kernel
theorem dX3_takeOut_71 : decode cX3_takeOut 71 = .ok (.putfield 24, 3) := by decide +kernel
theorem dX3_takeOut_74 : decode cX3_takeOut 74 = .ok (.aload_n 1, 1) := by decide +kernel
theorem dX3_takeOut_75 : decode cX3_takeOut 75 = .ok (.getfield 21, 3) := by decide +kernel
theorem dX3_takeOut_78 : decode cX3_takeOut 78 = .ok (.iload_n 2, 1) := by decide +kernel
theorem dX3_takeOut_79 : decode cX3_takeOut 79 = .ok (.iconst 0, 1) := by decide +kernel
theorem dX3_takeOut_80 : decode cX3_takeOut 80 = .ok (.iastore, 1) := by decide +kernel
theorem dX3_takeOut_81 : decode cX3_takeOut 81 = .ok (.aload_n 1, 1) := by decide +kernel
theorem dX3_takeOut_82 : decode cX3_takeOut 82 = .ok (.getfield 41, 3) := by decide +kernel
theorem dX3_takeOut_85 : decode cX3_takeOut 85 = .ok (.iload_n 2, 1) := by decide +kernel
theorem dX3_takeOut_86 : decode cX3_takeOut 86 = .ok (.iconst 0, 1) := by decide +kernel
theorem dX3_takeOut_87 : decode cX3_takeOut 87 = .ok (.iastore, 1) := by decide +kernel
theorem dX3_takeOut_88 : decode cX3_takeOut 88 = .ok (.iload_n 3, 1) := by decide +kernel
theorem dX3_takeOut_89 : decode cX3_takeOut 89 = .ok (.ifCond .ne 26, 3) := by decide +kernel
theorem dX3_takeOut_92 : decode cX3_takeOut 92 = .ok (.iload 4, 2) := by decide +kernel
theorem dX3_takeOut_94 : decode cX3_takeOut 94 = .ok (.aload_n 1, 1) := by decide +kernel
theorem dX3_takeOut_95 : decode cX3_takeOut 95 = .ok (.invokevirtual 110, 3) := by decide +kernel
theorem dX3_takeOut_98 : decode cX3_takeOut 98 = .ok (.isub, 1) := by decide +kernel
theorem dX3_takeOut_99 : decode cX3_takeOut 99 = .ok (.istore 5, 2) := by decide +kernel
theorem dX3_takeOut_101 : decode cX3_takeOut 101 = .ok (.aload_n 1, 1) := by decide +kernel
theorem dX3_takeOut_102 : decode cX3_takeOut 102 = .ok (.dup, 1) := by decide +kernel
theorem dX3_takeOut_103 : decode cX3_takeOut 103 = .ok (.getfield 114, 3) := by decide +kernel
theorem dX3_takeOut_106 : decode cX3_takeOut 106 = .ok (.iload 5, 2) := by decide +kernel
theorem dX3_takeOut_108 : decode cX3_takeOut 108 = .ok (.iadd, 1) := by decide +kernel
theorem dX3_takeOut_109 : decode cX3_takeOut 109 = .ok (.putfield 114, 3) := by decide +kernel
theorem dX3_takeOut_112 : decode cX3_takeOut 112 = .ok (.iload 5, 2) := by decide +kernel
theorem dX3_takeOut_114 : decode cX3_takeOut 114 = .ok (.ireturn, 1) := by decide +kernel
theorem dX3_takeOut_115 : decode cX3_takeOut 115 = .ok (.iload_n 3, 1) := by decide +kernel
theorem dX3_takeOut_116 : decode cX3_takeOut 116 = .ok (.aload_n 1, 1) := by decide +kernel
theorem dX3_takeOut_117 : decode cX3_takeOut 117 = .ok (.getfield 24, 3) := by decide +kernel
theorem dX3_takeOut_120 : decode cX3_takeOut 120 = .ok (.if_icmp .ne 11, 3) := by decide +kernel
theorem dX3_takeOut_123 : decode cX3_takeOut 123 = .ok (.aload_n 0, 1) := by decide +kernel
theorem dX3_takeOut_124 : decode cX3_takeOut 124 = .ok (.aload_n 1, 1) := by decide +kernel
theorem dX3_takeOut_125 : decode cX3_takeOut 125 = .ok (.invokevirtual 117, 3) := by decide +kernel
theorem dX3_takeOut_128 : decode cX3_takeOut 128 = .ok (.goto 11, 3) := by decide +kernel
theorem dX3_takeOut_131 : decode cX3_takeOut 131 = .ok (.aload_n 0, 1) := by decide +kernel
theorem dX3_takeOut_132 : decode cX3_takeOut 132 = .ok (.aload_n 1, 1) := by decide +kernel
theorem dX3_takeOut_133 : decode cX3_takeOut 133 = .ok (.iload_n 3, 1) := by decide +kernel
theorem dX3_takeOut_134 : decode cX3_takeOut 134 = .ok (.iconst 1, 1) := by decide +kernel
theorem dX3_takeOut_135 : decode cX3_takeOut 135 = .ok (.isub, 1) := by decide +kernel
theorem dX3_takeOut_136 : decode cX3_takeOut 136 = .ok (.invokevirtual 120, 3) := by decide +kernel
theorem dX3_takeOut_139 : decode cX3_takeOut 139 = .ok (.iconst 0, 1) := by decide +kernel
theorem dX3_takeOut_140 : decode cX3_takeOut 140 = .ok (.ireturn, 1) := by decide +kernel
theorem dX3_mendTail_0 : decode cX3_mendTail 0 = .ok (.aload_n 1, 1) := by decide +kernel
theorem dX3_mendTail_1 : decode cX3_mendTail 1 = .ok (.getfield 24, 3) := by decide +kernel
theorem dX3_mendTail_4 : decode cX3_mendTail 4 = .ok (.iconst 1, 1) := by decide +kernel
theorem dX3_mendTail_5 : decode cX3_mendTail 5 = .ok (.isub, 1) := by decide +kernel
theorem dX3_mendTail_6 : decode cX3_mendTail 6 = .ok (.istore_n 2, 1) := by decide +kernel
theorem dX3_mendTail_7 : decode cX3_mendTail 7 = .ok (.aload_n 1, 1) := by decide +kernel
theorem dX3_mendTail_8 : decode cX3_mendTail 8 = .ok (.getfield 15, 3) := by decide +kernel
theorem dX3_mendTail_11 : decode cX3_mendTail 11 = .ok (.iload_n 2, 1) := by decide +kernel
theorem dX3_mendTail_12 : decode cX3_mendTail 12 = .ok (.iaload, 1) := by decide +kernel
theorem dX3_mendTail_13 : decode cX3_mendTail 13 = .ok (.istore_n 3, 1) := by decide +kernel
theorem dX3_mendTail_14 : decode cX3_mendTail 14 = .ok (.aload_n 1, 1) := by decide +kernel
theorem dX3_mendTail_15 : decode cX3_mendTail 15 = .ok (.getfield 41, 3) := by decide +kernel
theorem dX3_mendTail_18 : decode cX3_mendTail 18 = .ok (.iload_n 3, 1) := by decide +kernel
theorem dX3_mendTail_19 : decode cX3_mendTail 19 = .ok (.iaload, 1) := by decide +kernel
theorem dX3_mendTail_20 : decode cX3_mendTail 20 = .ok (.iconst 1, 1) := by decide +kernel
theorem dX3_mendTail_21 : decode cX3_mendTail 21 = .ok (.iadd, 1) := by decide +kernel
theorem dX3_mendTail_22 : decode cX3_mendTail 22 = .ok (.istore 4, 2) := by decide +kernel
theorem dX3_mendTail_24 : decode cX3_mendTail 24 = .ok (.iload 4, 2) := by decide +kernel
theorem dX3_mendTail_26 : decode cX3_mendTail 26 = .ok (.aload_n 1, 1) := by decide +kernel
theorem dX3_mendTail_27 : decode cX3_mendTail 27 = .ok (.getfield 21, 3) := by decide +kernel
theorem dX3_mendTail_30 : decode cX3_mendTail 30 = .ok (.iload_n 3, 1) := by decide +kernel
theorem dX3_mendTail_31 : decode cX3_mendTail 31 = .ok (.iaload, 1) := by decide +kernel
theorem dX3_mendTail_32 : decode cX3_mendTail 32 = .ok (.if_icmp .gt 31, 3) := by decide +kernel
theorem dX3_mendTail_35 : decode cX3_mendTail 35 = .ok (.aload_n 1, 1) := by decide +kernel
theorem dX3_mendTail_36 : decode cX3_mendTail 36 = .ok (.getfield 41, 3) := by decide +kernel
theorem dX3_mendTail_39 : decode cX3_mendTail 39 = .ok (.iload_n 3, 1) := by decide +kernel
theorem dX3_mendTail_40 : decode cX3_mendTail 40 = .ok (.iload 4, 2) := by decide +kernel
theorem dX3_mendTail_42 : decode cX3_mendTail 42 = .ok (.iastore, 1) := by decide +kernel
theorem dX3_mendTail_43 : decode cX3_mendTail 43 = .ok (.iload_n 2, 1) := by decide +kernel
theorem dX3_mendTail_44 : decode cX3_mendTail 44 = .ok (.ifCond .le 13, 3) := by decide +kernel
theorem dX3_mendTail_47 : decode cX3_mendTail 47 = .ok (.aload_n 0, 1) := by decide +kernel
theorem dX3_mendTail_48 : decode cX3_mendTail 48 = .ok (.aload_n 1, 1) := by decide +kernel
theorem dX3_mendTail_49 : decode cX3_mendTail 49 = .ok (.iload_n 2, 1) := by decide +kernel
theorem dX3_mendTail_50 : decode cX3_mendTail 50 = .ok (.iconst 1, 1) := by decide +kernel
theorem dX3_mendTail_51 : decode cX3_mendTail 51 = .ok (.isub, 1) := by decide +kernel
theorem dX3_mendTail_52 : decode cX3_mendTail 52 = .ok (.iload 4, 2) := by decide +kernel
theorem dX3_mendTail_54 : decode cX3_mendTail 54 = .ok (.invokevirtual 44, 3) := by decide +kernel
theorem dX3_mendTail_57 : decode cX3_mendTail 57 = .ok (.iinc 4 1, 3) := by decide +kernel
theorem dX3_mendTail_60 : decode cX3_mendTail 60 = .ok (.goto (-36), 3) := by decide +kernel
theorem dX3_mendTail_63 : decode cX3_mendTail 63 = .ok (.aload_n 1, 1) := by decide +kernel
theorem dX3_mendTail_64 : decode cX3_mendTail 64 = .ok (.getfield 91, 3) := by decide +kernel
theorem dX3_mendTail_67 : decode cX3_mendTail 67 = .ok (.iconst (-1), 1) := by decide +kernel
theorem dX3_mendTail_68 : decode cX3_mendTail 68 = .ok (.if_icmp .eq 14, 3) := by decide +kernel
theorem dX3_mendTail_71 : decode cX3_mendTail 71 = .ok (.aload_n 1, 1) := by decide +kernel
theorem dX3_mendTail_72 : decode cX3_mendTail 72 = .ok (.aload_n 0, 1) := by decide +kernel
theorem dX3_mendTail_73 : decode cX3_mendTail 73 = .ok (.getfield 9, 3) := by decide +kernel
theorem dX3_mendTail_76 : decode cX3_mendTail 76 = .ok (.getfield 124, 3) := by decide +kernel
theorem dX3_mendTail_79 : decode cX3_mendTail 79 = .ok (.putfield 94, 3) := by decide +kernel
theorem dX3_mendTail_82 : decode cX3_mendTail 82 = .ok (.return_, 1) := by decide +kernel
theorem dX3_mendGap_0 : decode cX3_mendGap 0 = .ok (.aload_n 1, 1) := by decide +kernel
theorem dX3_mendGap_1 : decode cX3_mendGap 1 = .ok (.getfield 15, 3) := by decide +kernel
theorem dX3_mendGap_4 : decode cX3_mendGap 4 = .ok (.iload_n 2, 1) := by decide +kernel
theorem dX3_mendGap_5 : decode cX3_mendGap 5 = .ok (.iaload, 1) := by decide +kernel
theorem dX3_mendGap_6 : decode cX3_mendGap 6 = .ok (.istore_n 3, 1) := by decide +kernel
theorem dX3_mendGap_7 : decode cX3_mendGap 7 = .ok (.aload_n 1, 1) := by decide +kernel
theorem dX3_mendGap_8 : decode cX3_mendGap 8 = .ok (.getfield 15, 3) := by decide +kernel
theorem dX3_mendGap_11 : decode cX3_mendGap 11 = .ok (.iload_n 2, 1) := by decide +kernel
theorem dX3_mendGap_12 : decode cX3_mendGap 12 = .ok (.iconst 1, 1) := by decide +kernel
theorem dX3_mendGap_13 : decode cX3_mendGap 13 = .ok (.iadd, 1) := by decide +kernel
theorem dX3_mendGap_14 : decode cX3_mendGap 14 = .ok (.iaload, 1) := by decide +kernel
theorem dX3_mendGap_15 : decode cX3_mendGap 15 = .ok (.istore 4, 2) := by decide +kernel
theorem dX3_mendGap_17 : decode cX3_mendGap 17 = .ok (.aload_n 1, 1) := by decide +kernel
theorem dX3_mendGap_18 : decode cX3_mendGap 18 = .ok (.getfield 21, 3) := by decide +kernel
theorem dX3_mendGap_21 : decode cX3_mendGap 21 = .ok (.iload 4, 2) := by decide +kernel
theorem dX3_mendGap_23 : decode cX3_mendGap 23 = .ok (.iaload, 1) := by decide +kernel
theorem dX3_mendGap_24 : decode cX3_mendGap 24 = .ok (.iconst 1, 1) := by decide +kernel
theorem dX3_mendGap_25 : decode cX3_mendGap 25 = .ok (.iadd, 1) := by decide +kernel
theorem dX3_mendGap_26 : decode cX3_mendGap 26 = .ok (.istore 5, 2) := by decide +kernel
theorem dX3_mendGap_28 : decode cX3_mendGap 28 = .ok (.iload 5, 2) := by decide +kernel
theorem dX3_mendGap_30 : decode cX3_mendGap 30 = .ok (.aload_n 1, 1) := by decide +kernel
theorem dX3_mendGap_31 : decode cX3_mendGap 31 = .ok (.getfield 21, 3) := by decide +kernel
theorem dX3_mendGap_34 : decode cX3_mendGap 34 = .ok (.iload_n 3, 1) := by decide +kernel
theorem dX3_mendGap_35 : decode cX3_mendGap 35 = .ok (.iaload, 1) := by decide +kernel
theorem dX3_mendGap_36 : decode cX3_mendGap 36 = .ok (.if_icmp .gt 17, 3) := by decide +kernel
