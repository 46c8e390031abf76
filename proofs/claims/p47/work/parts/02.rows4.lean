theorem dX7_readLine_9 : decode cX7_readLine 9 = .ok (.iconst 3, 1) := by decide +kernel
theorem dX7_readLine_10 : decode cX7_readLine 10 = .ok (.if_icmp .ne 10, 3) := by decide +kernel
theorem dX7_readLine_13 : decode cX7_readLine 13 = .ok (.aload_n 0, 1) := by decide +kernel
theorem dX7_readLine_14 : decode cX7_readLine 14 = .ok (.invokevirtual 231, 3) := by decide +kernel
theorem dX7_readLine_17 : decode cX7_readLine 17 = .ok (.ifCond .eq 7, 3) := by decide +kernel
theorem dX7_readLine_20 : decode cX7_readLine 20 = .ok (.aload_n 0, 1) := by decide +kernel
theorem dX7_readLine_21 : decode cX7_readLine 21 = .ok (.invokevirtual 202, 3) := by decide +kernel
theorem dX7_readLine_24 : decode cX7_readLine 24 = .ok (.aload_n 0, 1) := by decide +kernel
theorem dX7_readLine_25 : decode cX7_readLine 25 = .ok (.invokevirtual 195, 3) := by decide +kernel
theorem dX7_readLine_28 : decode cX7_readLine 28 = .ok (.ifCond .ne 4, 3) := by decide +kernel
theorem dX7_readLine_31 : decode cX7_readLine 31 = .ok (.return_, 1) := by decide +kernel
theorem dX7_readLine_32 : decode cX7_readLine 32 = .ok (.aload_n 0, 1) := by decide +kernel
theorem dX7_readLine_33 : decode cX7_readLine 33 = .ok (.invokevirtual 199, 3) := by decide +kernel
theorem dX7_readLine_36 : decode cX7_readLine 36 = .ok (.lload_n 1, 1) := by decide +kernel
theorem dX7_readLine_37 : decode cX7_readLine 37 = .ok (.ldc2_w 125, 3) := by decide +kernel
theorem dX7_readLine_40 : decode cX7_readLine 40 = .ok (.lcmp, 1) := by decide +kernel
theorem dX7_readLine_41 : decode cX7_readLine 41 = .ok (.ifCond .eq 11, 3) := by decide +kernel
theorem dX7_readLine_44 : decode cX7_readLine 44 = .ok (.lload_n 1, 1) := by decide +kernel
theorem dX7_readLine_45 : decode cX7_readLine 45 = .ok (.ldc2_w 127, 3) := by decide +kernel
theorem dX7_readLine_48 : decode cX7_readLine 48 = .ok (.lcmp, 1) := by decide +kernel
theorem dX7_readLine_49 : decode cX7_readLine 49 = .ok (.ifCond .ne 20, 3) := by decide +kernel
theorem dX7_readLine_52 : decode cX7_readLine 52 = .ok (.aload_n 0, 1) := by decide +kernel
theorem dX7_readLine_53 : decode cX7_readLine 53 = .ok (.lload_n 1, 1) := by decide +kernel
theorem dX7_readLine_54 : decode cX7_readLine 54 = .ok (.ldc2_w 125, 3) := by decide +kernel
theorem dX7_readLine_57 : decode cX7_readLine 57 = .ok (.lcmp, 1) := by decide +kernel
theorem dX7_readLine_58 : decode cX7_readLine 58 = .ok (.ifCond .ne 7, 3) := by decide +kernel
theorem dX7_readLine_61 : decode cX7_readLine 61 = .ok (.iconst 1, 1) := by decide +kernel
theorem dX7_readLine_62 : decode cX7_readLine 62 = .ok (.goto 4, 3) := by decide +kernel
theorem dX7_readLine_65 : decode cX7_readLine 65 = .ok (.iconst 0, 1) := by decide +kernel
theorem dX7_readLine_66 : decode cX7_readLine 66 = .ok (.invokevirtual 234, 3) := by decide +kernel
theorem dX7_readLine_69 : decode cX7_readLine 69 = .ok (.lload_n 1, 1) := by decide +kernel
theorem dX7_readLine_70 : decode cX7_readLine 70 = .ok (.ldc2_w 129, 3) := by decide +kernel
theorem dX7_readLine_73 : decode cX7_readLine 73 = .ok (.lcmp, 1) := by decide +kernel
theorem dX7_readLine_74 : decode cX7_readLine 74 = .ok (.ifCond .ne 60, 3) := by decide +kernel
theorem dX7_readLine_77 : decode cX7_readLine 77 = .ok (.aload_n 0, 1) := by decide +kernel
theorem dX7_readLine_78 : decode cX7_readLine 78 = .ok (.getfield 58, 3) := by decide +kernel
theorem dX7_readLine_81 : decode cX7_readLine 81 = .ok (.iconst 4, 1) := by decide +kernel
theorem dX7_readLine_82 : decode cX7_readLine 82 = .ok (.aload_n 0, 1) := by decide +kernel
theorem dX7_readLine_83 : decode cX7_readLine 83 = .ok (.getfield 205, 3) := by decide +kernel
theorem dX7_readLine_86 : decode cX7_readLine 86 = .ok (.imul, 1) := by decide +kernel
theorem dX7_readLine_87 : decode cX7_readLine 87 = .ok (.aload_n 0, 1) := by decide +kernel
theorem dX7_readLine_88 : decode cX7_readLine 88 = .ok (.getfield 27, 3) := by decide +kernel
theorem dX7_readLine_91 : decode cX7_readLine 91 = .ok (.aload_n 0, 1) := by decide +kernel
theorem dX7_readLine_92 : decode cX7_readLine 92 = .ok (.getfield 205, 3) := by decide +kernel
theorem dX7_readLine_95 : decode cX7_readLine 95 = .ok (.iaload, 1) := by decide +kernel
theorem dX7_readLine_96 : decode cX7_readLine 96 = .ok (.iadd, 1) := by decide +kernel
theorem dX7_readLine_97 : decode cX7_readLine 97 = .ok (.aload_n 0, 1) := by decide +kernel
theorem dX7_readLine_98 : decode cX7_readLine 98 = .ok (.aload_n 0, 1) := by decide +kernel
theorem dX7_readLine_99 : decode cX7_readLine 99 = .ok (.getfield 58, 3) := by decide +kernel
theorem dX7_readLine_102 : decode cX7_readLine 102 = .ok (.iconst 4, 1) := by decide +kernel
theorem dX7_readLine_103 : decode cX7_readLine 103 = .ok (.aload_n 0, 1) := by decide +kernel
theorem dX7_readLine_104 : decode cX7_readLine 104 = .ok (.getfield 205, 3) := by decide +kernel
theorem dX7_readLine_107 : decode cX7_readLine 107 = .ok (.imul, 1) := by decide +kernel
theorem dX7_readLine_108 : decode cX7_readLine 108 = .ok (.aload_n 0, 1) := by decide +kernel
theorem dX7_readLine_109 : decode cX7_readLine 109 = .ok (.getfield 27, 3) := by decide +kernel
theorem dX7_readLine_112 : decode cX7_readLine 112 = .ok (.aload_n 0, 1) := by decide +kernel
theorem dX7_readLine_113 : decode cX7_readLine 113 = .ok (.getfield 205, 3) := by decide +kernel
theorem dX7_readLine_116 : decode cX7_readLine 116 = .ok (.iaload, 1) := by decide +kernel
theorem dX7_readLine_117 : decode cX7_readLine 117 = .ok (.invokevirtual 238, 3) := by decide +kernel
theorem dX7_readLine_120 : decode cX7_readLine 120 = .ok (.lastore, 1) := by decide +kernel
theorem dX7_readLine_121 : decode cX7_readLine 121 = .ok (.aload_n 0, 1) := by decide +kernel
theorem dX7_readLine_122 : decode cX7_readLine 122 = .ok (.getfield 27, 3) := by decide +kernel
theorem dX7_readLine_125 : decode cX7_readLine 125 = .ok (.aload_n 0, 1) := by decide +kernel
theorem dX7_readLine_126 : decode cX7_readLine 126 = .ok (.getfield 205, 3) := by decide +kernel
theorem dX7_readLine_129 : decode cX7_readLine 129 = .ok (.dup2, 1) := by decide +kernel
theorem dX7_readLine_130 : decode cX7_readLine 130 = .ok (.iaload, 1) := by decide +kernel
theorem dX7_readLine_131 : decode cX7_readLine 131 = .ok (.iconst 1, 1) := by decide +kernel
theorem dX7_readLine_132 : decode cX7_readLine 132 = .ok (.iadd, 1) := by decide +kernel
theorem dX7_readLine_133 : decode cX7_readLine 133 = .ok (.iastore, 1) := by decide +kernel
theorem dX7_readLine_134 : decode cX7_readLine 134 = .ok (.lload_n 1, 1) := by decide +kernel
theorem dX7_readLine_135 : decode cX7_readLine 135 = .ok (.ldc2_w 131, 3) := by decide +kernel
theorem dX7_readLine_138 : decode cX7_readLine 138 = .ok (.lcmp, 1) := by decide +kernel
theorem dX7_readLine_139 : decode cX7_readLine 139 = .ok (.ifCond .ne 7, 3) := by decide +kernel
theorem dX7_readLine_142 : decode cX7_readLine 142 = .ok (.aload_n 0, 1) := by decide +kernel
theorem dX7_readLine_143 : decode cX7_readLine 143 = .ok (.invokevirtual 242, 3) := by decide +kernel
theorem dX7_readLine_146 : decode cX7_readLine 146 = .ok (.lload_n 1, 1) := by decide +kernel
theorem dX7_readLine_147 : decode cX7_readLine 147 = .ok (.ldc2_w 133, 3) := by decide +kernel
theorem dX7_readLine_150 : decode cX7_readLine 150 = .ok (.lcmp, 1) := by decide +kernel
theorem dX7_readLine_151 : decode cX7_readLine 151 = .ok (.ifCond .ne 20, 3) := by decide +kernel
theorem dX7_readLine_154 : decode cX7_readLine 154 = .ok (.aload_n 0, 1) := by decide +kernel
theorem dX7_readLine_155 : decode cX7_readLine 155 = .ok (.getfield 33, 3) := by decide +kernel
theorem dX7_readLine_158 : decode cX7_readLine 158 = .ok (.aload_n 0, 1) := by decide +kernel
theorem dX7_readLine_159 : decode cX7_readLine 159 = .ok (.getfield 205, 3) := by decide +kernel
theorem dX7_readLine_162 : decode cX7_readLine 162 = .ok (.aload_n 0, 1) := by decide +kernel
theorem dX7_readLine_163 : decode cX7_readLine 163 = .ok (.iconst 1, 1) := by decide +kernel
theorem dX7_readLine_164 : decode cX7_readLine 164 = .ok (.iconst 1, 1) := by decide +kernel
theorem dX7_readLine_165 : decode cX7_readLine 165 = .ok (.bipush 9, 2) := by decide +kernel
theorem dX7_readLine_167 : decode cX7_readLine 167 = .ok (.invokevirtual 245, 3) := by decide +kernel
theorem dX7_readLine_170 : decode cX7_readLine 170 = .ok (.iastore, 1) := by decide +kernel
theorem dX7_readLine_171 : decode cX7_readLine 171 = .ok (.lload_n 1, 1) := by decide +kernel
theorem dX7_readLine_172 : decode cX7_readLine 172 = .ok (.ldc2_w 135, 3) := by decide +kernel
theorem dX7_readLine_175 : decode cX7_readLine 175 = .ok (.lcmp, 1) := by decide +kernel
theorem dX7_readLine_176 : decode cX7_readLine 176 = .ok (.ifCond .ne 20, 3) := by decide +kernel
theorem dX7_readLine_179 : decode cX7_readLine 179 = .ok (.aload_n 0, 1) := by decide +kernel
theorem dX7_readLine_180 : decode cX7_readLine 180 = .ok (.getfield 36, 3) := by decide +kernel
theorem dX7_readLine_183 : decode cX7_readLine 183 = .ok (.aload_n 0, 1) := by decide +kernel
theorem dX7_readLine_184 : decode cX7_readLine 184 = .ok (.getfield 205, 3) := by decide +kernel
theorem dX7_readLine_187 : decode cX7_readLine 187 = .ok (.aload_n 0, 1) := by decide +kernel
theorem dX7_readLine_188 : decode cX7_readLine 188 = .ok (.iconst 2, 1) := by decide +kernel
theorem dX7_readLine_189 : decode cX7_readLine 189 = .ok (.iconst 0, 1) := by decide +kernel
theorem dX7_readLine_190 : decode cX7_readLine 190 = .ok (.bipush 100, 2) := by decide +kernel
theorem dX7_readLine_192 : decode cX7_readLine 192 = .ok (.invokevirtual 245, 3) := by decide +kernel
theorem dX7_readLine_195 : decode cX7_readLine 195 = .ok (.iastore, 1) := by decide +kernel
theorem dX7_readLine_196 : decode cX7_readLine 196 = .ok (.lload_n 1, 1) := by decide +kernel
theorem dX7_readLine_197 : decode cX7_readLine 197 = .ok (.ldc2_w 137, 3) := by decide +kernel
theorem dX7_readLine_200 : decode cX7_readLine 200 = .ok (.lcmp, 1) := by decide +kernel
theorem dX7_readLine_201 : decode cX7_readLine 201 = .ok (.ifCond .ne 21, 3) := by decide +kernel
theorem dX7_readLine_204 : decode cX7_readLine 204 = .ok (.aload_n 0, 1) := by decide +kernel
theorem dX7_readLine_205 : decode cX7_readLine 205 = .ok (.getfield 39, 3) := by decide +kernel
theorem dX7_readLine_208 : decode cX7_readLine 208 = .ok (.aload_n 0, 1) := by decide +kernel
theorem dX7_readLine_209 : decode cX7_readLine 209 = .ok (.getfield 205, 3) := by decide +kernel
theorem dX7_readLine_212 : decode cX7_readLine 212 = .ok (.aload_n 0, 1) := by decide +kernel
theorem dX7_readLine_213 : decode cX7_readLine 213 = .ok (.iconst 3, 1) := by decide +kernel
theorem dX7_readLine_214 : decode cX7_readLine 214 = .ok (.iconst 0, 1) := by decide +kernel
theorem dX7_readLine_215 : decode cX7_readLine 215 = .ok (.sipush 999, 3) := by decide +kernel
theorem dX7_readLine_218 : decode cX7_readLine 218 = .ok (.invokevirtual 245, 3) := by decide +kernel
theorem dX7_readLine_221 : decode cX7_readLine 221 = .ok (.iastore, 1) := by decide +kernel
theorem dX7_readLine_222 : decode cX7_readLine 222 = .ok (.aload_n 0, 1) := by decide +kernel
theorem dX7_readLine_223 : decode cX7_readLine 223 = .ok (.aload_n 0, 1) := by decide +kernel
theorem dX7_readLine_224 : decode cX7_readLine 224 = .ok (.bipush 59, 2) := by decide +kernel
theorem dX7_readLine_226 : decode cX7_readLine 226 = .ok (.invokevirtual 249, 3) := by decide +kernel
theorem dX7_readLine_229 : decode cX7_readLine 229 = .ok (.invokevirtual 252, 3) := by decide +kernel
theorem dX7_readLine_232 : decode cX7_readLine 232 = .ok (.return_, 1) := by decide +kernel
theorem dX7_fresh_0 : decode cX7_fresh 0 = .ok (.aload_n 0, 1) := by decide +kernel
theorem dX7_fresh_1 : decode cX7_fresh 1 = .ok (.invokevirtual 195, 3) := by decide +kernel
theorem dX7_fresh_4 : decode cX7_fresh 4 = .ok (.ifCond .ne 5, 3) := by decide +kernel
theorem dX7_fresh_7 : decode cX7_fresh 7 = .ok (.lconst 0, 1) := by decide +kernel
theorem dX7_fresh_8 : decode cX7_fresh 8 = .ok (.lreturn, 1) := by decide +kernel
theorem dX7_fresh_9 : decode cX7_fresh 9 = .ok (.iconst 0, 1) := by decide +kernel
theorem dX7_fresh_10 : decode cX7_fresh 10 = .ok (.istore 4, 2) := by decide +kernel
theorem dX7_fresh_12 : decode cX7_fresh 12 = .ok (.iload 4, 2) := by decide +kernel
theorem dX7_fresh_14 : decode cX7_fresh 14 = .ok (.iload_n 3, 1) := by decide +kernel
theorem dX7_fresh_15 : decode cX7_fresh 15 = .ok (.if_icmp .ge 40, 3) := by decide +kernel
theorem dX7_fresh_18 : decode cX7_fresh 18 = .ok (.aload_n 0, 1) := by decide +kernel
theorem dX7_fresh_19 : decode cX7_fresh 19 = .ok (.getfield 167, 3) := by decide +kernel
theorem dX7_fresh_22 : decode cX7_fresh 22 = .ok (.iconst 2, 1) := by decide +kernel
theorem dX7_fresh_23 : decode cX7_fresh 23 = .ok (.if_icmp .ne 26, 3) := by decide +kernel
theorem dX7_fresh_26 : decode cX7_fresh 26 = .ok (.aload_n 1, 1) := by decide +kernel
theorem dX7_fresh_27 : decode cX7_fresh 27 = .ok (.iload_n 2, 1) := by decide +kernel
theorem dX7_fresh_28 : decode cX7_fresh 28 = .ok (.iload 4, 2) := by decide +kernel
theorem dX7_fresh_30 : decode cX7_fresh 30 = .ok (.iadd, 1) := by decide +kernel
theorem dX7_fresh_31 : decode cX7_fresh 31 = .ok (.laload, 1) := by decide +kernel
theorem dX7_fresh_32 : decode cX7_fresh 32 = .ok (.aload_n 0, 1) := by decide +kernel
theorem dX7_fresh_33 : decode cX7_fresh 33 = .ok (.getfield 174, 3) := by decide +kernel
theorem dX7_fresh_36 : decode cX7_fresh 36 = .ok (.lcmp, 1) := by decide +kernel
theorem dX7_fresh_37 : decode cX7_fresh 37 = .ok (.ifCond .ne 12, 3) := by decide +kernel
theorem dX7_fresh_40 : decode cX7_fresh 40 = .ok (.aload_n 0, 1) := by decide +kernel
theorem dX7_fresh_41 : decode cX7_fresh 41 = .ok (.iconst 3, 1) := by decide +kernel
theorem dX7_fresh_42 : decode cX7_fresh 42 = .ok (.aload_n 0, 1) := by decide +kernel
theorem dX7_fresh_43 : decode cX7_fresh 43 = .ok (.getfield 160, 3) := by decide +kernel
theorem dX7_fresh_46 : decode cX7_fresh 46 = .ok (.invokevirtual 191, 3) := by decide +kernel
theorem dX7_fresh_49 : decode cX7_fresh 49 = .ok (.iinc 4 1, 3) := by decide +kernel
theorem dX7_fresh_52 : decode cX7_fresh 52 = .ok (.goto (-40), 3) := by decide +kernel
theorem dX7_fresh_55 : decode cX7_fresh 55 = .ok (.aload_n 0, 1) := by decide +kernel
theorem dX7_fresh_56 : decode cX7_fresh 56 = .ok (.getfield 174, 3) := by decide +kernel
theorem dX7_fresh_59 : decode cX7_fresh 59 = .ok (.lstore 4, 2) := by decide +kernel
theorem dX7_fresh_61 : decode cX7_fresh 61 = .ok (.aload_n 0, 1) := by decide +kernel
theorem dX7_fresh_62 : decode cX7_fresh 62 = .ok (.aload_n 0, 1) := by decide +kernel
theorem dX7_fresh_63 : decode cX7_fresh 63 = .ok (.getfield 167, 3) := by decide +kernel
theorem dX7_fresh_66 : decode cX7_fresh 66 = .ok (.iconst 2, 1) := by decide +kernel
theorem dX7_fresh_67 : decode cX7_fresh 67 = .ok (.if_icmp .ne 7, 3) := by decide +kernel
theorem dX7_fresh_70 : decode cX7_fresh 70 = .ok (.iconst 1, 1) := by decide +kernel
theorem dX7_fresh_71 : decode cX7_fresh 71 = .ok (.goto 4, 3) := by decide +kernel
theorem dX7_fresh_74 : decode cX7_fresh 74 = .ok (.iconst 0, 1) := by decide +kernel
theorem dX7_fresh_75 : decode cX7_fresh 75 = .ok (.invokevirtual 252, 3) := by decide +kernel
theorem dX7_fresh_78 : decode cX7_fresh 78 = .ok (.lload 4, 2) := by decide +kernel
theorem dX7_fresh_80 : decode cX7_fresh 80 = .ok (.lreturn, 1) := by decide +kernel
theorem dX7_readNode_0 : decode cX7_readNode 0 = .ok (.aload_n 0, 1) := by decide +kernel
theorem dX7_readNode_1 : decode cX7_readNode 1 = .ok (.getfield 54, 3) := by decide +kernel
theorem dX7_readNode_4 : decode cX7_readNode 4 = .ok (.bipush 8, 2) := by decide +kernel
theorem dX7_readNode_6 : decode cX7_readNode 6 = .ok (.aload_n 0, 1) := by decide +kernel
theorem dX7_readNode_7 : decode cX7_readNode 7 = .ok (.getfield 205, 3) := by decide +kernel
theorem dX7_readNode_10 : decode cX7_readNode 10 = .ok (.imul, 1) := by decide +kernel
theorem dX7_readNode_11 : decode cX7_readNode 11 = .ok (.aload_n 0, 1) := by decide +kernel
theorem dX7_readNode_12 : decode cX7_readNode 12 = .ok (.getfield 20, 3) := by decide +kernel
theorem dX7_readNode_15 : decode cX7_readNode 15 = .ok (.aload_n 0, 1) := by decide +kernel
theorem dX7_readNode_16 : decode cX7_readNode 16 = .ok (.getfield 205, 3) := by decide +kernel
theorem dX7_readNode_19 : decode cX7_readNode 19 = .ok (.iaload, 1) := by decide +kernel
theorem dX7_readNode_20 : decode cX7_readNode 20 = .ok (.iadd, 1) := by decide +kernel
theorem dX7_readNode_21 : decode cX7_readNode 21 = .ok (.aload_n 0, 1) := by decide +kernel
theorem dX7_readNode_22 : decode cX7_readNode 22 = .ok (.aload_n 0, 1) := by decide +kernel
theorem dX7_readNode_23 : decode cX7_readNode 23 = .ok (.getfield 54, 3) := by decide +kernel
theorem dX7_readNode_26 : decode cX7_readNode 26 = .ok (.bipush 8, 2) := by decide +kernel
theorem dX7_readNode_28 : decode cX7_readNode 28 = .ok (.aload_n 0, 1) := by decide +kernel
theorem dX7_readNode_29 : decode cX7_readNode 29 = .ok (.getfield 205, 3) := by decide +kernel
theorem dX7_readNode_32 : decode cX7_readNode 32 = .ok (.imul, 1) := by decide +kernel
theorem dX7_readNode_33 : decode cX7_readNode 33 = .ok (.aload_n 0, 1) := by decide +kernel
theorem dX7_readNode_34 : decode cX7_readNode 34 = .ok (.getfield 20, 3) := by decide +kernel
theorem dX7_readNode_37 : decode cX7_readNode 37 = .ok (.aload_n 0, 1) := by decide +kernel
theorem dX7_readNode_38 : decode cX7_readNode 38 = .ok (.getfield 205, 3) := by decide +kernel
theorem dX7_readNode_41 : decode cX7_readNode 41 = .ok (.iaload, 1) := by decide +kernel
theorem dX7_readNode_42 : decode cX7_readNode 42 = .ok (.invokevirtual 238, 3) := by decide +kernel
theorem dX7_readNode_45 : decode cX7_readNode 45 = .ok (.lastore, 1) := by decide +kernel
theorem dX7_readNode_46 : decode cX7_readNode 46 = .ok (.iload_n 1, 1) := by decide +kernel
theorem dX7_readNode_47 : decode cX7_readNode 47 = .ok (.ifCond .eq 47, 3) := by decide +kernel
theorem dX7_readNode_50 : decode cX7_readNode 50 = .ok (.aload_n 0, 1) := by decide +kernel
theorem dX7_readNode_51 : decode cX7_readNode 51 = .ok (.getfield 45, 3) := by decide +kernel
theorem dX7_readNode_54 : decode cX7_readNode 54 = .ok (.bipush 6, 2) := by decide +kernel
theorem dX7_readNode_56 : decode cX7_readNode 56 = .ok (.aload_n 0, 1) := by decide +kernel
theorem dX7_readNode_57 : decode cX7_readNode 57 = .ok (.getfield 205, 3) := by decide +kernel
theorem dX7_readNode_60 : decode cX7_readNode 60 = .ok (.imul, 1) := by decide +kernel
theorem dX7_readNode_61 : decode cX7_readNode 61 = .ok (.aload_n 0, 1) := by decide +kernel
theorem dX7_readNode_62 : decode cX7_readNode 62 = .ok (.getfield 24, 3) := by decide +kernel
theorem dX7_readNode_65 : decode cX7_readNode 65 = .ok (.aload_n 0, 1) := by decide +kernel
theorem dX7_readNode_66 : decode cX7_readNode 66 = .ok (.getfield 205, 3) := by decide +kernel
theorem dX7_readNode_69 : decode cX7_readNode 69 = .ok (.iaload, 1) := by decide +kernel
theorem dX7_readNode_70 : decode cX7_readNode 70 = .ok (.iadd, 1) := by decide +kernel
theorem dX7_readNode_71 : decode cX7_readNode 71 = .ok (.aload_n 0, 1) := by decide +kernel
theorem dX7_readNode_72 : decode cX7_readNode 72 = .ok (.getfield 20, 3) := by decide +kernel
theorem dX7_readNode_75 : decode cX7_readNode 75 = .ok (.aload_n 0, 1) := by decide +kernel
theorem dX7_readNode_76 : decode cX7_readNode 76 = .ok (.getfield 205, 3) := by decide +kernel
theorem dX7_readNode_79 : decode cX7_readNode 79 = .ok (.iaload, 1) := by decide +kernel
theorem dX7_readNode_80 : decode cX7_readNode 80 = .ok (.iastore, 1) := by decide +kernel
theorem dX7_readNode_81 : decode cX7_readNode 81 = .ok (.aload_n 0, 1) := by decide +kernel
theorem dX7_readNode_82 : decode cX7_readNode 82 = .ok (.getfield 24, 3) := by decide +kernel
theorem dX7_readNode_85 : decode cX7_readNode 85 = .ok (.aload_n 0, 1) := by decide +kernel
theorem dX7_readNode_86 : decode cX7_readNode 86 = .ok (.getfield 205, 3) := by decide +kernel
theorem dX7_readNode_89 : decode cX7_readNode 89 = .ok (.dup2, 1) := by decide +kernel
theorem dX7_readNode_90 : decode cX7_readNode 90 = .ok (.iaload, 1) := by decide +kernel
theorem dX7_readNode_91 : decode cX7_readNode 91 = .ok (.iconst 1, 1) := by decide +kernel
theorem dX7_readNode_92 : decode cX7_readNode 92 = .ok (.iadd, 1) := by decide +kernel
theorem dX7_readNode_93 : decode cX7_readNode 93 = .ok (.iastore, 1) := by decide +kernel
theorem dX7_readNode_94 : decode cX7_readNode 94 = .ok (.aload_n 0, 1) := by decide +kernel
theorem dX7_readNode_95 : decode cX7_readNode 95 = .ok (.getfield 20, 3) := by decide +kernel
theorem dX7_readNode_98 : decode cX7_readNode 98 = .ok (.aload_n 0, 1) := by decide +kernel
theorem dX7_readNode_99 : decode cX7_readNode 99 = .ok (.getfield 205, 3) := by decide +kernel
theorem dX7_readNode_102 : decode cX7_readNode 102 = .ok (.dup2, 1) := by decide +kernel
theorem dX7_readNode_103 : decode cX7_readNode 103 = .ok (.iaload, 1) := by decide +kernel
theorem dX7_readNode_104 : decode cX7_readNode 104 = .ok (.iconst 1, 1) := by decide +kernel
theorem dX7_readNode_105 : decode cX7_readNode 105 = .ok (.iadd, 1) := by decide +kernel
theorem dX7_readNode_106 : decode cX7_readNode 106 = .ok (.iastore, 1) := by decide +kernel
theorem dX7_readNode_107 : decode cX7_readNode 107 = .ok (.return_, 1) := by decide +kernel
theorem dX7_readRule_0 : decode cX7_readRule 0 = .ok (.aload_n 0, 1) := by decide +kernel
theorem dX7_readRule_1 : decode cX7_readRule 1 = .ok (.getfield 42, 3) := by decide +kernel
theorem dX7_readRule_4 : decode cX7_readRule 4 = .ok (.aload_n 0, 1) := by decide +kernel
theorem dX7_readRule_5 : decode cX7_readRule 5 = .ok (.getfield 205, 3) := by decide +kernel
theorem dX7_readRule_8 : decode cX7_readRule 8 = .ok (.dup2, 1) := by decide +kernel
theorem dX7_readRule_9 : decode cX7_readRule 9 = .ok (.iaload, 1) := by decide +kernel
theorem dX7_readRule_10 : decode cX7_readRule 10 = .ok (.iconst 1, 1) := by decide +kernel
theorem dX7_readRule_11 : decode cX7_readRule 11 = .ok (.ior, 1) := by decide +kernel
theorem dX7_readRule_12 : decode cX7_readRule 12 = .ok (.iastore, 1) := by decide +kernel
theorem dX7_readRule_13 : decode cX7_readRule 13 = .ok (.aload_n 0, 1) := by decide +kernel
theorem dX7_readRule_14 : decode cX7_readRule 14 = .ok (.iconst 0, 1) := by decide +kernel
theorem dX7_readRule_15 : decode cX7_readRule 15 = .ok (.putfield 255, 3) := by decide +kernel
theorem dX7_readRule_18 : decode cX7_readRule 18 = .ok (.aload_n 0, 1) := by decide +kernel
theorem dX7_readRule_19 : decode cX7_readRule 19 = .ok (.getfield 48, 3) := by decide +kernel
theorem dX7_readRule_22 : decode cX7_readRule 22 = .ok (.aload_n 0, 1) := by decide +kernel
theorem dX7_readRule_23 : decode cX7_readRule 23 = .ok (.getfield 205, 3) := by decide +kernel
theorem dX7_readRule_26 : decode cX7_readRule 26 = .ok (.aload_n 0, 1) := by decide +kernel
theorem dX7_readRule_27 : decode cX7_readRule 27 = .ok (.getfield 208, 3) := by decide +kernel
theorem dX7_readRule_30 : decode cX7_readRule 30 = .ok (.iastore, 1) := by decide +kernel
theorem dX7_readRule_31 : decode cX7_readRule 31 = .ok (.aload_n 0, 1) := by decide +kernel
theorem dX7_readRule_32 : decode cX7_readRule 32 = .ok (.invokevirtual 258, 3) := by decide +kernel
theorem dX7_readRule_35 : decode cX7_readRule 35 = .ok (.aload_n 0, 1) := by decide +kernel
theorem dX7_readRule_36 : decode cX7_readRule 36 = .ok (.getfield 51, 3) := by decide +kernel
theorem dX7_readRule_39 : decode cX7_readRule 39 = .ok (.aload_n 0, 1) := by decide +kernel
theorem dX7_readRule_40 : decode cX7_readRule 40 = .ok (.getfield 205, 3) := by decide +kernel
theorem dX7_readRule_43 : decode cX7_readRule 43 = .ok (.aload_n 0, 1) := by decide +kernel
theorem dX7_readRule_44 : decode cX7_readRule 44 = .ok (.getfield 208, 3) := by decide +kernel
theorem dX7_readRule_47 : decode cX7_readRule 47 = .ok (.iastore, 1) := by decide +kernel
theorem dX7_readRule_48 : decode cX7_readRule 48 = .ok (.return_, 1) := by decide +kernel
theorem dX7_emit_0 : decode cX7_emit 0 = .ok (.aload_n 0, 1) := by decide +kernel
theorem dX7_emit_1 : decode cX7_emit 1 = .ok (.getfield 61, 3) := by decide +kernel
theorem dX7_emit_4 : decode cX7_emit 4 = .ok (.aload_n 0, 1) := by decide +kernel
theorem dX7_emit_5 : decode cX7_emit 5 = .ok (.getfield 208, 3) := by decide +kernel
theorem dX7_emit_8 : decode cX7_emit 8 = .ok (.iload_n 1, 1) := by decide +kernel
theorem dX7_emit_9 : decode cX7_emit 9 = .ok (.iastore, 1) := by decide +kernel
theorem dX7_emit_10 : decode cX7_emit 10 = .ok (.aload_n 0, 1) := by decide +kernel
theorem dX7_emit_11 : decode cX7_emit 11 = .ok (.getfield 64, 3) := by decide +kernel
theorem dX7_emit_14 : decode cX7_emit 14 = .ok (.aload_n 0, 1) := by decide +kernel
theorem dX7_emit_15 : decode cX7_emit 15 = .ok (.getfield 208, 3) := by decide +kernel
theorem dX7_emit_18 : decode cX7_emit 18 = .ok (.iload_n 2, 1) := by decide +kernel
theorem dX7_emit_19 : decode cX7_emit 19 = .ok (.iastore, 1) := by decide +kernel
theorem dX7_emit_20 : decode cX7_emit 20 = .ok (.aload_n 0, 1) := by decide +kernel
theorem dX7_emit_21 : decode cX7_emit 21 = .ok (.dup, 1) := by decide +kernel
theorem dX7_emit_22 : decode cX7_emit 22 = .ok (.getfield 208, 3) := by decide +kernel
theorem dX7_emit_25 : decode cX7_emit 25 = .ok (.iconst 1, 1) := by decide +kernel
theorem dX7_emit_26 : decode cX7_emit 26 = .ok (.iadd, 1) := by decide +kernel
theorem dX7_emit_27 : decode cX7_emit 27 = .ok (.putfield 208, 3) := by decide +kernel
theorem dX7_emit_30 : decode cX7_emit 30 = .ok (.return_, 1) := by decide +kernel
theorem dX7_pushE_0 : decode cX7_pushE 0 = .ok (.aload_n 0, 1) := by decide +kernel
theorem dX7_pushE_1 : decode cX7_pushE 1 = .ok (.getfield 67, 3) := by decide +kernel
theorem dX7_pushE_4 : decode cX7_pushE 4 = .ok (.aload_n 0, 1) := by decide +kernel
theorem dX7_pushE_5 : decode cX7_pushE 5 = .ok (.getfield 261, 3) := by decide +kernel
theorem dX7_pushE_8 : decode cX7_pushE 8 = .ok (.iload_n 1, 1) := by decide +kernel
theorem dX7_pushE_9 : decode cX7_pushE 9 = .ok (.iastore, 1) := by decide +kernel
theorem dX7_pushE_10 : decode cX7_pushE 10 = .ok (.aload_n 0, 1) := by decide +kernel
theorem dX7_pushE_11 : decode cX7_pushE 11 = .ok (.getfield 70, 3) := by decide +kernel
theorem dX7_pushE_14 : decode cX7_pushE 14 = .ok (.aload_n 0, 1) := by decide +kernel
theorem dX7_pushE_15 : decode cX7_pushE 15 = .ok (.getfield 261, 3) := by decide +kernel
theorem dX7_pushE_18 : decode cX7_pushE 18 = .ok (.iload_n 2, 1) := by decide +kernel
theorem dX7_pushE_19 : decode cX7_pushE 19 = .ok (.iastore, 1) := by decide +kernel
theorem dX7_pushE_20 : decode cX7_pushE 20 = .ok (.aload_n 0, 1) := by decide +kernel
theorem dX7_pushE_21 : decode cX7_pushE 21 = .ok (.dup, 1) := by decide +kernel
theorem dX7_pushE_22 : decode cX7_pushE 22 = .ok (.getfield 261, 3) := by decide +kernel
theorem dX7_pushE_25 : decode cX7_pushE 25 = .ok (.iconst 1, 1) := by decide +kernel
theorem dX7_pushE_26 : decode cX7_pushE 26 = .ok (.iadd, 1) := by decide +kernel
theorem dX7_pushE_27 : decode cX7_pushE 27 = .ok (.putfield 261, 3) := by decide +kernel
theorem dX7_pushE_30 : decode cX7_pushE 30 = .ok (.return_, 1) := by decide +kernel
theorem dX7_e_0 : decode cX7_e 0 = .ok (.aload_n 0, 1) := by decide +kernel
theorem dX7_e_1 : decode cX7_e 1 = .ok (.iconst 0, 1) := by decide +kernel
theorem dX7_e_2 : decode cX7_e 2 = .ok (.putfield 261, 3) := by decide +kernel
theorem dX7_e_5 : decode cX7_e 5 = .ok (.aload_n 0, 1) := by decide +kernel
theorem dX7_e_6 : decode cX7_e 6 = .ok (.iconst 0, 1) := by decide +kernel
theorem dX7_e_7 : decode cX7_e 7 = .ok (.putfield 264, 3) := by decide +kernel
theorem dX7_e_10 : decode cX7_e 10 = .ok (.aload_n 0, 1) := by decide +kernel
theorem dX7_e_11 : decode cX7_e 11 = .ok (.bipush 8, 2) := by decide +kernel
theorem dX7_e_13 : decode cX7_e 13 = .ok (.iconst 0, 1) := by decide +kernel
theorem dX7_e_14 : decode cX7_e 14 = .ok (.invokevirtual 267, 3) := by decide +kernel
theorem dX7_e_17 : decode cX7_e 17 = .ok (.iconst 1, 1) := by decide +kernel
theorem dX7_e_18 : decode cX7_e 18 = .ok (.istore_n 1, 1) := by decide +kernel
theorem dX7_e_19 : decode cX7_e 19 = .ok (.aload_n 0, 1) := by decide +kernel
theorem dX7_e_20 : decode cX7_e 20 = .ok (.invokevirtual 195, 3) := by decide +kernel
theorem dX7_e_23 : decode cX7_e 23 = .ok (.ifCond .eq 29, 3) := by decide +kernel
theorem dX7_e_26 : decode cX7_e 26 = .ok (.aload_n 0, 1) := by decide +kernel
theorem dX7_e_27 : decode cX7_e 27 = .ok (.getfield 261, 3) := by decide +kernel
theorem dX7_e_30 : decode cX7_e 30 = .ok (.ifCond .le 22, 3) := by decide +kernel
theorem dX7_e_33 : decode cX7_e 33 = .ok (.iload_n 1, 1) := by decide +kernel
theorem dX7_e_34 : decode cX7_e 34 = .ok (.ifCond .eq 10, 3) := by decide +kernel
theorem dX7_e_37 : decode cX7_e 37 = .ok (.aload_n 0, 1) := by decide +kernel
theorem dX7_e_38 : decode cX7_e 38 = .ok (.invokevirtual 270, 3) := by decide +kernel
theorem dX7_e_41 : decode cX7_e 41 = .ok (.goto 7, 3) := by decide +kernel
theorem dX7_e_44 : decode cX7_e 44 = .ok (.aload_n 0, 1) := by decide +kernel
theorem dX7_e_45 : decode cX7_e 45 = .ok (.invokevirtual 273, 3) := by decide +kernel
theorem dX7_e_48 : decode cX7_e 48 = .ok (.istore_n 1, 1) := by decide +kernel
theorem dX7_e_49 : decode cX7_e 49 = .ok (.goto (-30), 3) := by decide +kernel
theorem dX7_e_52 : decode cX7_e 52 = .ok (.return_, 1) := by decide +kernel
theorem dX7_wordHere_0 : decode cX7_wordHere 0 = .ok (.aload_n 0, 1) := by decide +kernel
theorem dX7_wordHere_1 : decode cX7_wordHere 1 = .ok (.ldc2_w 139, 3) := by decide +kernel
theorem dX7_wordHere_4 : decode cX7_wordHere 4 = .ok (.invokevirtual 220, 3) := by decide +kernel
theorem dX7_wordHere_7 : decode cX7_wordHere 7 = .ok (.ifCond .eq 6, 3) := by decide +kernel
theorem dX7_wordHere_10 : decode cX7_wordHere 10 = .ok (.bipush 102, 2) := by decide +kernel
theorem dX7_wordHere_12 : decode cX7_wordHere 12 = .ok (.ireturn, 1) := by decide +kernel
theorem dX7_wordHere_13 : decode cX7_wordHere 13 = .ok (.aload_n 0, 1) := by decide +kernel
theorem dX7_wordHere_14 : decode cX7_wordHere 14 = .ok (.ldc2_w 141, 3) := by decide +kernel
theorem dX7_wordHere_17 : decode cX7_wordHere 17 = .ok (.invokevirtual 220, 3) := by decide +kernel
theorem dX7_wordHere_20 : decode cX7_wordHere 20 = .ok (.ifCond .eq 6, 3) := by decide +kernel
theorem dX7_wordHere_23 : decode cX7_wordHere 23 = .ok (.bipush 116, 2) := by decide +kernel
theorem dX7_wordHere_25 : decode cX7_wordHere 25 = .ok (.ireturn, 1) := by decide +kernel
theorem dX7_wordHere_26 : decode cX7_wordHere 26 = .ok (.aload_n 0, 1) := by decide +kernel
theorem dX7_wordHere_27 : decode cX7_wordHere 27 = .ok (.ldc2_w 143, 3) := by decide +kernel
theorem dX7_wordHere_30 : decode cX7_wordHere 30 = .ok (.invokevirtual 220, 3) := by decide +kernel
theorem dX7_wordHere_33 : decode cX7_wordHere 33 = .ok (.ifCond .eq 6, 3) := by decide +kernel
theorem dX7_wordHere_36 : decode cX7_wordHere 36 = .ok (.bipush 119, 2) := by decide +kernel
theorem dX7_wordHere_38 : decode cX7_wordHere 38 = .ok (.ireturn, 1) := by decide +kernel
theorem dX7_wordHere_39 : decode cX7_wordHere 39 = .ok (.aload_n 0, 1) := by decide +kernel
theorem dX7_wordHere_40 : decode cX7_wordHere 40 = .ok (.ldc2_w 145, 3) := by decide +kernel
theorem dX7_wordHere_43 : decode cX7_wordHere 43 = .ok (.invokevirtual 220, 3) := by decide +kernel
theorem dX7_wordHere_46 : decode cX7_wordHere 46 = .ok (.ifCond .eq 6, 3) := by decide +kernel
theorem dX7_wordHere_49 : decode cX7_wordHere 49 = .ok (.bipush 117, 2) := by decide +kernel
theorem dX7_wordHere_51 : decode cX7_wordHere 51 = .ok (.ireturn, 1) := by decide +kernel
theorem dX7_wordHere_52 : decode cX7_wordHere 52 = .ok (.aload_n 0, 1) := by decide +kernel
theorem dX7_wordHere_53 : decode cX7_wordHere 53 = .ok (.ldc2_w 147, 3) := by decide +kernel
theorem dX7_wordHere_56 : decode cX7_wordHere 56 = .ok (.invokevirtual 220, 3) := by decide +kernel
theorem dX7_wordHere_59 : decode cX7_wordHere 59 = .ok (.ifCond .eq 6, 3) := by decide +kernel
theorem dX7_wordHere_62 : decode cX7_wordHere 62 = .ok (.bipush 98, 2) := by decide +kernel
theorem dX7_wordHere_64 : decode cX7_wordHere 64 = .ok (.ireturn, 1) := by decide +kernel
theorem dX7_wordHere_65 : decode cX7_wordHere 65 = .ok (.aload_n 0, 1) := by decide +kernel
theorem dX7_wordHere_66 : decode cX7_wordHere 66 = .ok (.ldc2_w 149, 3) := by decide +kernel
theorem dX7_wordHere_69 : decode cX7_wordHere 69 = .ok (.invokevirtual 220, 3) := by decide +kernel
theorem dX7_wordHere_72 : decode cX7_wordHere 72 = .ok (.ifCond .eq 8, 3) := by decide +kernel
theorem dX7_wordHere_75 : decode cX7_wordHere 75 = .ok (.bipush 107, 2) := by decide +kernel
theorem dX7_wordHere_77 : decode cX7_wordHere 77 = .ok (.goto 4, 3) := by decide +kernel
theorem dX7_wordHere_80 : decode cX7_wordHere 80 = .ok (.iconst 0, 1) := by decide +kernel
theorem dX7_wordHere_81 : decode cX7_wordHere 81 = .ok (.ireturn, 1) := by decide +kernel
theorem dX7_unit_0 : decode cX7_unit 0 = .ok (.aload_n 0, 1) := by decide +kernel
theorem dX7_unit_1 : decode cX7_unit 1 = .ok (.getfield 67, 3) := by decide +kernel
theorem dX7_unit_4 : decode cX7_unit 4 = .ok (.aload_n 0, 1) := by decide +kernel
theorem dX7_unit_5 : decode cX7_unit 5 = .ok (.getfield 261, 3) := by decide +kernel
theorem dX7_unit_8 : decode cX7_unit 8 = .ok (.iconst 1, 1) := by decide +kernel
theorem dX7_unit_9 : decode cX7_unit 9 = .ok (.isub, 1) := by decide +kernel
theorem dX7_unit_10 : decode cX7_unit 10 = .ok (.iaload, 1) := by decide +kernel
theorem dX7_unit_11 : decode cX7_unit 11 = .ok (.iconst 3, 1) := by decide +kernel
theorem dX7_unit_12 : decode cX7_unit 12 = .ok (.if_icmp .le 19, 3) := by decide +kernel
theorem dX7_unit_15 : decode cX7_unit 15 = .ok (.aload_n 0, 1) := by decide +kernel
theorem dX7_unit_16 : decode cX7_unit 16 = .ok (.getfield 67, 3) := by decide +kernel
theorem dX7_unit_19 : decode cX7_unit 19 = .ok (.aload_n 0, 1) := by decide +kernel
theorem dX7_unit_20 : decode cX7_unit 20 = .ok (.getfield 261, 3) := by decide +kernel
theorem dX7_unit_23 : decode cX7_unit 23 = .ok (.iconst 1, 1) := by decide +kernel
theorem dX7_unit_24 : decode cX7_unit 24 = .ok (.isub, 1) := by decide +kernel
theorem dX7_unit_25 : decode cX7_unit 25 = .ok (.iaload, 1) := by decide +kernel
theorem dX7_unit_26 : decode cX7_unit 26 = .ok (.bipush 7, 2) := by decide +kernel
theorem dX7_unit_28 : decode cX7_unit 28 = .ok (.if_icmp .lt 7, 3) := by decide +kernel
theorem dX7_unit_31 : decode cX7_unit 31 = .ok (.iconst 1, 1) := by decide +kernel
theorem dX7_unit_32 : decode cX7_unit 32 = .ok (.goto 4, 3) := by decide +kernel
theorem dX7_unit_35 : decode cX7_unit 35 = .ok (.iconst 0, 1) := by decide +kernel
theorem dX7_unit_36 : decode cX7_unit 36 = .ok (.istore_n 1, 1) := by decide +kernel
theorem dX7_unit_37 : decode cX7_unit 37 = .ok (.iload_n 1, 1) := by decide +kernel
theorem dX7_unit_38 : decode cX7_unit 38 = .ok (.ifCond .eq 17, 3) := by decide +kernel
theorem dX7_unit_41 : decode cX7_unit 41 = .ok (.aload_n 0, 1) := by decide +kernel
theorem dX7_unit_42 : decode cX7_unit 42 = .ok (.ldc2_w 155, 3) := by decide +kernel
theorem dX7_unit_45 : decode cX7_unit 45 = .ok (.invokevirtual 220, 3) := by decide +kernel
theorem dX7_unit_48 : decode cX7_unit 48 = .ok (.ifCond .eq 7, 3) := by decide +kernel
theorem dX7_unit_51 : decode cX7_unit 51 = .ok (.iconst 1, 1) := by decide +kernel
theorem dX7_unit_52 : decode cX7_unit 52 = .ok (.goto 4, 3) := by decide +kernel
theorem dX7_unit_55 : decode cX7_unit 55 = .ok (.iconst 0, 1) := by decide +kernel
theorem dX7_unit_56 : decode cX7_unit 56 = .ok (.istore_n 2, 1) := by decide +kernel
theorem dX7_unit_57 : decode cX7_unit 57 = .ok (.aload_n 0, 1) := by decide +kernel
theorem dX7_unit_58 : decode cX7_unit 58 = .ok (.bipush 40, 2) := by decide +kernel
theorem dX7_unit_60 : decode cX7_unit 60 = .ok (.invokevirtual 249, 3) := by decide +kernel
theorem dX7_unit_63 : decode cX7_unit 63 = .ok (.istore_n 3, 1) := by decide +kernel
theorem dX7_unit_64 : decode cX7_unit 64 = .ok (.aload_n 0, 1) := by decide +kernel
theorem dX7_unit_65 : decode cX7_unit 65 = .ok (.invokevirtual 276, 3) := by decide +kernel
theorem dX7_unit_68 : decode cX7_unit 68 = .ok (.istore 4, 2) := by decide +kernel
theorem dX7_unit_70 : decode cX7_unit 70 = .ok (.aload_n 0, 1) := by decide +kernel
theorem dX7_unit_71 : decode cX7_unit 71 = .ok (.getfield 30, 3) := by decide +kernel
theorem dX7_unit_74 : decode cX7_unit 74 = .ok (.aload_n 0, 1) := by decide +kernel
theorem dX7_unit_75 : decode cX7_unit 75 = .ok (.getfield 205, 3) := by decide +kernel
theorem dX7_unit_78 : decode cX7_unit 78 = .ok (.iaload, 1) := by decide +kernel
theorem dX7_unit_79 : decode cX7_unit 79 = .ok (.bipush 60, 2) := by decide +kernel
theorem dX7_unit_81 : decode cX7_unit 81 = .ok (.if_icmp .eq 12, 3) := by decide +kernel
theorem dX7_unit_84 : decode cX7_unit 84 = .ok (.aload_n 0, 1) := by decide +kernel
theorem dX7_unit_85 : decode cX7_unit 85 = .ok (.getfield 255, 3) := by decide +kernel
theorem dX7_unit_88 : decode cX7_unit 88 = .ok (.bipush 30, 2) := by decide +kernel
theorem dX7_unit_90 : decode cX7_unit 90 = .ok (.if_icmp .ne 7, 3) := by decide +kernel
theorem dX7_unit_93 : decode cX7_unit 93 = .ok (.iconst 1, 1) := by decide +kernel
theorem dX7_unit_94 : decode cX7_unit 94 = .ok (.goto 4, 3) := by decide +kernel
theorem dX7_unit_97 : decode cX7_unit 97 = .ok (.iconst 0, 1) := by decide +kernel
theorem dX7_unit_98 : decode cX7_unit 98 = .ok (.istore 5, 2) := by decide +kernel
theorem dX7_unit_100 : decode cX7_unit 100 = .ok (.iload_n 2, 1) := by decide +kernel
theorem dX7_unit_101 : decode cX7_unit 101 = .ok (.ifCond .ne 25, 3) := by decide +kernel
theorem dX7_unit_104 : decode cX7_unit 104 = .ok (.iload 4, 2) := by decide +kernel
theorem dX7_unit_106 : decode cX7_unit 106 = .ok (.ifCond .ne 15, 3) := by decide +kernel
theorem dX7_unit_109 : decode cX7_unit 109 = .ok (.aload_n 0, 1) := by decide +kernel
theorem dX7_unit_110 : decode cX7_unit 110 = .ok (.getfield 167, 3) := by decide +kernel
theorem dX7_unit_113 : decode cX7_unit 113 = .ok (.iconst 4, 1) := by decide +kernel
theorem dX7_unit_114 : decode cX7_unit 114 = .ok (.if_icmp .eq 7, 3) := by decide +kernel
theorem dX7_unit_117 : decode cX7_unit 117 = .ok (.iload_n 3, 1) := by decide +kernel
theorem dX7_unit_118 : decode cX7_unit 118 = .ok (.ifCond .eq 25, 3) := by decide +kernel
theorem dX7_unit_121 : decode cX7_unit 121 = .ok (.iload 5, 2) := by decide +kernel
theorem dX7_unit_123 : decode cX7_unit 123 = .ok (.ifCond .ne 20, 3) := by decide +kernel
theorem dX7_unit_126 : decode cX7_unit 126 = .ok (.iload_n 2, 1) := by decide +kernel
theorem dX7_unit_127 : decode cX7_unit 127 = .ok (.ifCond .ne 7, 3) := by decide +kernel
theorem dX7_unit_130 : decode cX7_unit 130 = .ok (.iload_n 3, 1) := by decide +kernel
theorem dX7_unit_131 : decode cX7_unit 131 = .ok (.ifCond .eq 16, 3) := by decide +kernel
theorem dX7_unit_134 : decode cX7_unit 134 = .ok (.aload_n 0, 1) := by decide +kernel
theorem dX7_unit_135 : decode cX7_unit 135 = .ok (.getfield 264, 3) := by decide +kernel
theorem dX7_unit_138 : decode cX7_unit 138 = .ok (.bipush 7, 2) := by decide +kernel
theorem dX7_unit_140 : decode cX7_unit 140 = .ok (.if_icmp .ne 7, 3) := by decide +kernel
theorem dX7_unit_143 : decode cX7_unit 143 = .ok (.aload_n 0, 1) := by decide +kernel
theorem dX7_unit_144 : decode cX7_unit 144 = .ok (.invokevirtual 202, 3) := by decide +kernel
theorem dX7_unit_147 : decode cX7_unit 147 = .ok (.aload_n 0, 1) := by decide +kernel
theorem dX7_unit_148 : decode cX7_unit 148 = .ok (.invokevirtual 195, 3) := by decide +kernel
theorem dX7_unit_151 : decode cX7_unit 151 = .ok (.ifCond .ne 5, 3) := by decide +kernel
theorem dX7_unit_154 : decode cX7_unit 154 = .ok (.iconst 1, 1) := by decide +kernel
theorem dX7_unit_155 : decode cX7_unit 155 = .ok (.ireturn, 1) := by decide +kernel
theorem dX7_unit_156 : decode cX7_unit 156 = .ok (.aload_n 0, 1) := by decide +kernel
theorem dX7_unit_157 : decode cX7_unit 157 = .ok (.getfield 30, 3) := by decide +kernel
theorem dX7_unit_160 : decode cX7_unit 160 = .ok (.aload_n 0, 1) := by decide +kernel
theorem dX7_unit_161 : decode cX7_unit 161 = .ok (.getfield 205, 3) := by decide +kernel
theorem dX7_unit_164 : decode cX7_unit 164 = .ok (.dup2, 1) := by decide +kernel
theorem dX7_unit_165 : decode cX7_unit 165 = .ok (.iaload, 1) := by decide +kernel
theorem dX7_unit_166 : decode cX7_unit 166 = .ok (.iload_n 2, 1) := by decide +kernel
theorem dX7_unit_167 : decode cX7_unit 167 = .ok (.ifCond .eq 7, 3) := by decide +kernel
theorem dX7_unit_170 : decode cX7_unit 170 = .ok (.iconst 0, 1) := by decide +kernel
theorem dX7_unit_171 : decode cX7_unit 171 = .ok (.goto 4, 3) := by decide +kernel
theorem dX7_unit_174 : decode cX7_unit 174 = .ok (.iconst 1, 1) := by decide +kernel
theorem dX7_unit_175 : decode cX7_unit 175 = .ok (.iadd, 1) := by decide +kernel
theorem dX7_unit_176 : decode cX7_unit 176 = .ok (.iastore, 1) := by decide +kernel
theorem dX7_unit_177 : decode cX7_unit 177 = .ok (.aload_n 0, 1) := by decide +kernel
theorem dX7_unit_178 : decode cX7_unit 178 = .ok (.dup, 1) := by decide +kernel
theorem dX7_unit_179 : decode cX7_unit 179 = .ok (.getfield 255, 3) := by decide +kernel
theorem dX7_unit_182 : decode cX7_unit 182 = .ok (.iload_n 2, 1) := by decide +kernel
theorem dX7_unit_183 : decode cX7_unit 183 = .ok (.ifCond .eq 7, 3) := by decide +kernel
theorem dX7_unit_186 : decode cX7_unit 186 = .ok (.iconst 0, 1) := by decide +kernel
theorem dX7_unit_187 : decode cX7_unit 187 = .ok (.goto 4, 3) := by decide +kernel
theorem dX7_unit_190 : decode cX7_unit 190 = .ok (.iconst 1, 1) := by decide +kernel
theorem dX7_unit_191 : decode cX7_unit 191 = .ok (.iadd, 1) := by decide +kernel
theorem dX7_unit_192 : decode cX7_unit 192 = .ok (.putfield 255, 3) := by decide +kernel
theorem dX7_unit_195 : decode cX7_unit 195 = .ok (.iload 4, 2) := by decide +kernel
theorem dX7_unit_197 : decode cX7_unit 197 = .ok (.ifCond .ne 10, 3) := by decide +kernel
theorem dX7_unit_200 : decode cX7_unit 200 = .ok (.aload_n 0, 1) := by decide +kernel
theorem dX7_unit_201 : decode cX7_unit 201 = .ok (.getfield 185, 3) := by decide +kernel
theorem dX7_unit_204 : decode cX7_unit 204 = .ok (.goto 4, 3) := by decide +kernel
theorem dX7_unit_207 : decode cX7_unit 207 = .ok (.iconst 0, 1) := by decide +kernel
theorem dX7_unit_208 : decode cX7_unit 208 = .ok (.istore 6, 2) := by decide +kernel
theorem dX7_unit_210 : decode cX7_unit 210 = .ok (.aload_n 0, 1) := by decide +kernel
theorem dX7_unit_211 : decode cX7_unit 211 = .ok (.invokevirtual 199, 3) := by decide +kernel
theorem dX7_unit_214 : decode cX7_unit 214 = .ok (.iload_n 2, 1) := by decide +kernel
theorem dX7_unit_215 : decode cX7_unit 215 = .ok (.ifCond .ne 7, 3) := by decide +kernel
theorem dX7_unit_218 : decode cX7_unit 218 = .ok (.iload_n 3, 1) := by decide +kernel
theorem dX7_unit_219 : decode cX7_unit 219 = .ok (.ifCond .eq 31, 3) := by decide +kernel
theorem dX7_unit_222 : decode cX7_unit 222 = .ok (.aload_n 0, 1) := by decide +kernel
theorem dX7_unit_223 : decode cX7_unit 223 = .ok (.iload_n 2, 1) := by decide +kernel
theorem dX7_unit_224 : decode cX7_unit 224 = .ok (.ifCond .eq 7, 3) := by decide +kernel
theorem dX7_unit_227 : decode cX7_unit 227 = .ok (.iconst 3, 1) := by decide +kernel
theorem dX7_unit_228 : decode cX7_unit 228 = .ok (.goto 5, 3) := by decide +kernel
theorem dX7_unit_231 : decode cX7_unit 231 = .ok (.bipush 7, 2) := by decide +kernel
theorem dX7_unit_233 : decode cX7_unit 233 = .ok (.bipush 126, 2) := by decide +kernel
theorem dX7_unit_235 : decode cX7_unit 235 = .ok (.invokevirtual 267, 3) := by decide +kernel
theorem dX7_unit_238 : decode cX7_unit 238 = .ok (.aload_n 0, 1) := by decide +kernel
theorem dX7_unit_239 : decode cX7_unit 239 = .ok (.dup, 1) := by decide +kernel
theorem dX7_unit_240 : decode cX7_unit 240 = .ok (.getfield 264, 3) := by decide +kernel
theorem dX7_unit_243 : decode cX7_unit 243 = .ok (.iconst 1, 1) := by decide +kernel
theorem dX7_unit_244 : decode cX7_unit 244 = .ok (.iadd, 1) := by decide +kernel
theorem dX7_unit_245 : decode cX7_unit 245 = .ok (.putfield 264, 3) := by decide +kernel
theorem dX7_unit_248 : decode cX7_unit 248 = .ok (.iconst 1, 1) := by decide +kernel
theorem dX7_unit_249 : decode cX7_unit 249 = .ok (.ireturn, 1) := by decide +kernel
theorem dX7_unit_250 : decode cX7_unit 250 = .ok (.aload_n 0, 1) := by decide +kernel
theorem dX7_unit_251 : decode cX7_unit 251 = .ok (.iload 4, 2) := by decide +kernel
theorem dX7_unit_253 : decode cX7_unit 253 = .ok (.ifCond .ne 8, 3) := by decide +kernel
theorem dX7_unit_256 : decode cX7_unit 256 = .ok (.bipush 110, 2) := by decide +kernel
theorem dX7_unit_258 : decode cX7_unit 258 = .ok (.goto 5, 3) := by decide +kernel
theorem dX7_unit_261 : decode cX7_unit 261 = .ok (.iload 4, 2) := by decide +kernel
theorem dX7_unit_263 : decode cX7_unit 263 = .ok (.iload 6, 2) := by decide +kernel
theorem dX7_unit_265 : decode cX7_unit 265 = .ok (.invokevirtual 280, 3) := by decide +kernel
theorem dX7_unit_268 : decode cX7_unit 268 = .ok (.iconst 0, 1) := by decide +kernel
theorem dX7_unit_269 : decode cX7_unit 269 = .ok (.ireturn, 1) := by decide +kernel
theorem dX7_rankHere_0 : decode cX7_rankHere 0 = .ok (.aload_n 0, 1) := by decide +kernel
theorem dX7_rankHere_1 : decode cX7_rankHere 1 = .ok (.ldc2_w 153, 3) := by decide +kernel
theorem dX7_rankHere_4 : decode cX7_rankHere 4 = .ok (.invokevirtual 220, 3) := by decide +kernel
theorem dX7_rankHere_7 : decode cX7_rankHere 7 = .ok (.ifCond .eq 5, 3) := by decide +kernel
theorem dX7_rankHere_10 : decode cX7_rankHere 10 = .ok (.iconst 2, 1) := by decide +kernel
theorem dX7_rankHere_11 : decode cX7_rankHere 11 = .ok (.ireturn, 1) := by decide +kernel
theorem dX7_rankHere_12 : decode cX7_rankHere 12 = .ok (.aload_n 0, 1) := by decide +kernel
theorem dX7_rankHere_13 : decode cX7_rankHere 13 = .ok (.ldc2_w 151, 3) := by decide +kernel
theorem dX7_rankHere_16 : decode cX7_rankHere 16 = .ok (.invokevirtual 220, 3) := by decide +kernel
theorem dX7_rankHere_19 : decode cX7_rankHere 19 = .ok (.ifCond .eq 5, 3) := by decide +kernel
theorem dX7_rankHere_22 : decode cX7_rankHere 22 = .ok (.iconst 1, 1) := by decide +kernel
theorem dX7_rankHere_23 : decode cX7_rankHere 23 = .ok (.ireturn, 1) := by decide +kernel
theorem dX7_rankHere_24 : decode cX7_rankHere 24 = .ok (.aload_n 0, 1) := by decide +kernel
theorem dX7_rankHere_25 : decode cX7_rankHere 25 = .ok (.bipush 60, 2) := by decide +kernel
theorem dX7_rankHere_27 : decode cX7_rankHere 27 = .ok (.invokevirtual 249, 3) := by decide +kernel
theorem dX7_rankHere_30 : decode cX7_rankHere 30 = .ok (.ifCond .ne 21, 3) := by decide +kernel
theorem dX7_rankHere_33 : decode cX7_rankHere 33 = .ok (.aload_n 0, 1) := by decide +kernel
theorem dX7_rankHere_34 : decode cX7_rankHere 34 = .ok (.bipush 62, 2) := by decide +kernel
theorem dX7_rankHere_36 : decode cX7_rankHere 36 = .ok (.invokevirtual 249, 3) := by decide +kernel
theorem dX7_rankHere_39 : decode cX7_rankHere 39 = .ok (.ifCond .ne 12, 3) := by decide +kernel
theorem dX7_rankHere_42 : decode cX7_rankHere 42 = .ok (.aload_n 0, 1) := by decide +kernel
theorem dX7_rankHere_43 : decode cX7_rankHere 43 = .ok (.bipush 61, 2) := by decide +kernel
theorem dX7_rankHere_45 : decode cX7_rankHere 45 = .ok (.invokevirtual 249, 3) := by decide +kernel
theorem dX7_rankHere_48 : decode cX7_rankHere 48 = .ok (.ifCond .eq 5, 3) := by decide +kernel
theorem dX7_rankHere_51 : decode cX7_rankHere 51 = .ok (.iconst 4, 1) := by decide +kernel
theorem dX7_rankHere_52 : decode cX7_rankHere 52 = .ok (.ireturn, 1) := by decide +kernel
theorem dX7_rankHere_53 : decode cX7_rankHere 53 = .ok (.aload_n 0, 1) := by decide +kernel
theorem dX7_rankHere_54 : decode cX7_rankHere 54 = .ok (.bipush 43, 2) := by decide +kernel
theorem dX7_rankHere_56 : decode cX7_rankHere 56 = .ok (.invokevirtual 249, 3) := by decide +kernel
theorem dX7_rankHere_59 : decode cX7_rankHere 59 = .ok (.ifCond .ne 12, 3) := by decide +kernel
theorem dX7_rankHere_62 : decode cX7_rankHere 62 = .ok (.aload_n 0, 1) := by decide +kernel
theorem dX7_rankHere_63 : decode cX7_rankHere 63 = .ok (.bipush 45, 2) := by decide +kernel
theorem dX7_rankHere_65 : decode cX7_rankHere 65 = .ok (.invokevirtual 249, 3) := by decide +kernel
theorem dX7_rankHere_68 : decode cX7_rankHere 68 = .ok (.ifCond .eq 5, 3) := by decide +kernel
theorem dX7_rankHere_71 : decode cX7_rankHere 71 = .ok (.iconst 5, 1) := by decide +kernel
theorem dX7_rankHere_72 : decode cX7_rankHere 72 = .ok (.ireturn, 1) := by decide +kernel
theorem dX7_rankHere_73 : decode cX7_rankHere 73 = .ok (.aload_n 0, 1) := by decide +kernel
theorem dX7_rankHere_74 : decode cX7_rankHere 74 = .ok (.bipush 42, 2) := by decide +kernel
theorem dX7_rankHere_76 : decode cX7_rankHere 76 = .ok (.invokevirtual 249, 3) := by decide +kernel
theorem dX7_rankHere_79 : decode cX7_rankHere 79 = .ok (.ifCond .ne 21, 3) := by decide +kernel
theorem dX7_rankHere_82 : decode cX7_rankHere 82 = .ok (.aload_n 0, 1) := by decide +kernel
theorem dX7_rankHere_83 : decode cX7_rankHere 83 = .ok (.bipush 47, 2) := by decide +kernel
theorem dX7_rankHere_85 : decode cX7_rankHere 85 = .ok (.invokevirtual 249, 3) := by decide +kernel
theorem dX7_rankHere_88 : decode cX7_rankHere 88 = .ok (.ifCond .ne 12, 3) := by decide +kernel
theorem dX7_rankHere_91 : decode cX7_rankHere 91 = .ok (.aload_n 0, 1) := by decide +kernel
theorem dX7_rankHere_92 : decode cX7_rankHere 92 = .ok (.bipush 37, 2) := by decide +kernel
theorem dX7_rankHere_94 : decode cX7_rankHere 94 = .ok (.invokevirtual 249, 3) := by decide +kernel
theorem dX7_rankHere_97 : decode cX7_rankHere 97 = .ok (.ifCond .eq 8, 3) := by decide +kernel
theorem dX7_rankHere_100 : decode cX7_rankHere 100 = .ok (.bipush 6, 2) := by decide +kernel
theorem dX7_rankHere_102 : decode cX7_rankHere 102 = .ok (.goto 4, 3) := by decide +kernel
theorem dX7_rankHere_105 : decode cX7_rankHere 105 = .ok (.iconst 0, 1) := by decide +kernel
theorem dX7_rankHere_106 : decode cX7_rankHere 106 = .ok (.ireturn, 1) := by decide +kernel
theorem dX7_isCompared_0 : decode cX7_isCompared 0 = .ok (.aload_n 0, 1) := by decide +kernel
theorem dX7_isCompared_1 : decode cX7_isCompared 1 = .ok (.getfield 261, 3) := by decide +kernel
theorem dX7_isCompared_4 : decode cX7_isCompared 4 = .ok (.iconst 1, 1) := by decide +kernel
theorem dX7_isCompared_5 : decode cX7_isCompared 5 = .ok (.isub, 1) := by decide +kernel
theorem dX7_isCompared_6 : decode cX7_isCompared 6 = .ok (.istore_n 1, 1) := by decide +kernel
theorem dX7_isCompared_7 : decode cX7_isCompared 7 = .ok (.aload_n 0, 1) := by decide +kernel
theorem dX7_isCompared_8 : decode cX7_isCompared 8 = .ok (.getfield 67, 3) := by decide +kernel
theorem dX7_isCompared_11 : decode cX7_isCompared 11 = .ok (.iload_n 1, 1) := by decide +kernel
theorem dX7_isCompared_12 : decode cX7_isCompared 12 = .ok (.iaload, 1) := by decide +kernel
theorem dX7_isCompared_13 : decode cX7_isCompared 13 = .ok (.iconst 5, 1) := by decide +kernel
theorem dX7_isCompared_14 : decode cX7_isCompared 14 = .ok (.if_icmp .eq 14, 3) := by decide +kernel
theorem dX7_isCompared_17 : decode cX7_isCompared 17 = .ok (.aload_n 0, 1) := by decide +kernel
theorem dX7_isCompared_18 : decode cX7_isCompared 18 = .ok (.getfield 67, 3) := by decide +kernel
theorem dX7_isCompared_21 : decode cX7_isCompared 21 = .ok (.iload_n 1, 1) := by decide +kernel
theorem dX7_isCompared_22 : decode cX7_isCompared 22 = .ok (.iaload, 1) := by decide +kernel
theorem dX7_isCompared_23 : decode cX7_isCompared 23 = .ok (.bipush 6, 2) := by decide +kernel
theorem dX7_isCompared_25 : decode cX7_isCompared 25 = .ok (.if_icmp .ne 9, 3) := by decide +kernel
theorem dX7_isCompared_28 : decode cX7_isCompared 28 = .ok (.iinc 1 (-1), 3) := by decide +kernel
theorem dX7_isCompared_31 : decode cX7_isCompared 31 = .ok (.goto (-24), 3) := by decide +kernel
theorem dX7_isCompared_34 : decode cX7_isCompared 34 = .ok (.aload_n 0, 1) := by decide +kernel
theorem dX7_isCompared_35 : decode cX7_isCompared 35 = .ok (.getfield 67, 3) := by decide +kernel
theorem dX7_isCompared_38 : decode cX7_isCompared 38 = .ok (.iload_n 1, 1) := by decide +kernel
theorem dX7_isCompared_39 : decode cX7_isCompared 39 = .ok (.iaload, 1) := by decide +kernel
theorem dX7_isCompared_40 : decode cX7_isCompared 40 = .ok (.iconst 4, 1) := by decide +kernel
theorem dX7_isCompared_41 : decode cX7_isCompared 41 = .ok (.if_icmp .ne 7, 3) := by decide +kernel
theorem dX7_isCompared_44 : decode cX7_isCompared 44 = .ok (.iconst 1, 1) := by decide +kernel
theorem dX7_isCompared_45 : decode cX7_isCompared 45 = .ok (.goto 4, 3) := by decide +kernel
theorem dX7_isCompared_48 : decode cX7_isCompared 48 = .ok (.iconst 0, 1) := by decide +kernel
theorem dX7_isCompared_49 : decode cX7_isCompared 49 = .ok (.ireturn, 1) := by decide +kernel
theorem dX7_behindUnit_0 : decode cX7_behindUnit 0 = .ok (.aload_n 0, 1) := by decide +kernel
theorem dX7_behindUnit_1 : decode cX7_behindUnit 1 = .ok (.invokevirtual 283, 3) := by decide +kernel
theorem dX7_behindUnit_4 : decode cX7_behindUnit 4 = .ok (.istore_n 1, 1) := by decide +kernel
theorem dX7_behindUnit_5 : decode cX7_behindUnit 5 = .ok (.iload_n 1, 1) := by decide +kernel
theorem dX7_behindUnit_6 : decode cX7_behindUnit 6 = .ok (.iconst 4, 1) := by decide +kernel
theorem dX7_behindUnit_7 : decode cX7_behindUnit 7 = .ok (.if_icmp .ne 16, 3) := by decide +kernel
theorem dX7_behindUnit_10 : decode cX7_behindUnit 10 = .ok (.aload_n 0, 1) := by decide +kernel
theorem dX7_behindUnit_11 : decode cX7_behindUnit 11 = .ok (.invokevirtual 286, 3) := by decide +kernel
theorem dX7_behindUnit_14 : decode cX7_behindUnit 14 = .ok (.ifCond .eq 9, 3) := by decide +kernel
theorem dX7_behindUnit_17 : decode cX7_behindUnit 17 = .ok (.aload_n 0, 1) := by decide +kernel
theorem dX7_behindUnit_18 : decode cX7_behindUnit 18 = .ok (.invokevirtual 202, 3) := by decide +kernel
theorem dX7_behindUnit_21 : decode cX7_behindUnit 21 = .ok (.iconst 1, 1) := by decide +kernel
theorem dX7_behindUnit_22 : decode cX7_behindUnit 22 = .ok (.ireturn, 1) := by decide +kernel
theorem dX7_behindUnit_23 : decode cX7_behindUnit 23 = .ok (.aload_n 0, 1) := by decide +kernel
theorem dX7_behindUnit_24 : decode cX7_behindUnit 24 = .ok (.getfield 67, 3) := by decide +kernel
theorem dX7_behindUnit_27 : decode cX7_behindUnit 27 = .ok (.aload_n 0, 1) := by decide +kernel
theorem dX7_behindUnit_28 : decode cX7_behindUnit 28 = .ok (.getfield 261, 3) := by decide +kernel
theorem dX7_behindUnit_31 : decode cX7_behindUnit 31 = .ok (.iconst 1, 1) := by decide +kernel
theorem dX7_behindUnit_32 : decode cX7_behindUnit 32 = .ok (.isub, 1) := by decide +kernel
theorem dX7_behindUnit_33 : decode cX7_behindUnit 33 = .ok (.iaload, 1) := by decide +kernel
theorem dX7_behindUnit_34 : decode cX7_behindUnit 34 = .ok (.bipush 6, 2) := by decide +kernel
theorem dX7_behindUnit_36 : decode cX7_behindUnit 36 = .ok (.if_icmp .gt 68, 3) := by decide +kernel
theorem dX7_behindUnit_39 : decode cX7_behindUnit 39 = .ok (.aload_n 0, 1) := by decide +kernel
theorem dX7_behindUnit_40 : decode cX7_behindUnit 40 = .ok (.getfield 67, 3) := by decide +kernel
theorem dX7_behindUnit_43 : decode cX7_behindUnit 43 = .ok (.aload_n 0, 1) := by decide +kernel
theorem dX7_behindUnit_44 : decode cX7_behindUnit 44 = .ok (.getfield 261, 3) := by decide +kernel
theorem dX7_behindUnit_47 : decode cX7_behindUnit 47 = .ok (.iconst 1, 1) := by decide +kernel
theorem dX7_behindUnit_48 : decode cX7_behindUnit 48 = .ok (.isub, 1) := by decide +kernel
theorem dX7_behindUnit_49 : decode cX7_behindUnit 49 = .ok (.iaload, 1) := by decide +kernel
theorem dX7_behindUnit_50 : decode cX7_behindUnit 50 = .ok (.iload_n 1, 1) := by decide +kernel
theorem dX7_behindUnit_51 : decode cX7_behindUnit 51 = .ok (.if_icmp .lt 53, 3) := by decide +kernel
theorem dX7_behindUnit_54 : decode cX7_behindUnit 54 = .ok (.aload_n 0, 1) := by decide +kernel
theorem dX7_behindUnit_55 : decode cX7_behindUnit 55 = .ok (.dup, 1) := by decide +kernel
theorem dX7_behindUnit_56 : decode cX7_behindUnit 56 = .ok (.getfield 261, 3) := by decide +kernel
theorem dX7_behindUnit_59 : decode cX7_behindUnit 59 = .ok (.iconst 1, 1) := by decide +kernel
theorem dX7_behindUnit_60 : decode cX7_behindUnit 60 = .ok (.isub, 1) := by decide +kernel
theorem dX7_behindUnit_61 : decode cX7_behindUnit 61 = .ok (.putfield 261, 3) := by decide +kernel
theorem dX7_behindUnit_64 : decode cX7_behindUnit 64 = .ok (.aload_n 0, 1) := by decide +kernel
theorem dX7_behindUnit_65 : decode cX7_behindUnit 65 = .ok (.getfield 67, 3) := by decide +kernel
theorem dX7_behindUnit_68 : decode cX7_behindUnit 68 = .ok (.aload_n 0, 1) := by decide +kernel
theorem dX7_behindUnit_69 : decode cX7_behindUnit 69 = .ok (.getfield 261, 3) := by decide +kernel
theorem dX7_behindUnit_72 : decode cX7_behindUnit 72 = .ok (.iaload, 1) := by decide +kernel
theorem dX7_behindUnit_73 : decode cX7_behindUnit 73 = .ok (.iconst 3, 1) := by decide +kernel
theorem dX7_behindUnit_74 : decode cX7_behindUnit 74 = .ok (.if_icmp .ne 13, 3) := by decide +kernel
theorem dX7_behindUnit_77 : decode cX7_behindUnit 77 = .ok (.aload_n 0, 1) := by decide +kernel
theorem dX7_behindUnit_78 : decode cX7_behindUnit 78 = .ok (.dup, 1) := by decide +kernel
theorem dX7_behindUnit_79 : decode cX7_behindUnit 79 = .ok (.getfield 264, 3) := by decide +kernel
theorem dX7_behindUnit_82 : decode cX7_behindUnit 82 = .ok (.iconst 1, 1) := by decide +kernel
theorem dX7_behindUnit_83 : decode cX7_behindUnit 83 = .ok (.isub, 1) := by decide +kernel
theorem dX7_behindUnit_84 : decode cX7_behindUnit 84 = .ok (.putfield 264, 3) := by decide +kernel
theorem dX7_behindUnit_87 : decode cX7_behindUnit 87 = .ok (.aload_n 0, 1) := by decide +kernel
theorem dX7_behindUnit_88 : decode cX7_behindUnit 88 = .ok (.aload_n 0, 1) := by decide +kernel
theorem dX7_behindUnit_89 : decode cX7_behindUnit 89 = .ok (.getfield 70, 3) := by decide +kernel
theorem dX7_behindUnit_92 : decode cX7_behindUnit 92 = .ok (.aload_n 0, 1) := by decide +kernel
theorem dX7_behindUnit_93 : decode cX7_behindUnit 93 = .ok (.getfield 261, 3) := by decide +kernel
theorem dX7_behindUnit_96 : decode cX7_behindUnit 96 = .ok (.iaload, 1) := by decide +kernel
theorem dX7_behindUnit_97 : decode cX7_behindUnit 97 = .ok (.iconst 0, 1) := by decide +kernel
theorem dX7_behindUnit_98 : decode cX7_behindUnit 98 = .ok (.invokevirtual 280, 3) := by decide +kernel
theorem dX7_behindUnit_101 : decode cX7_behindUnit 101 = .ok (.goto (-78), 3) := by decide +kernel
theorem dX7_behindUnit_104 : decode cX7_behindUnit 104 = .ok (.iload_n 1, 1) := by decide +kernel
theorem dX7_behindUnit_105 : decode cX7_behindUnit 105 = .ok (.ifCond .le 42, 3) := by decide +kernel
theorem dX7_behindUnit_108 : decode cX7_behindUnit 108 = .ok (.aload_n 0, 1) := by decide +kernel
theorem dX7_behindUnit_109 : decode cX7_behindUnit 109 = .ok (.iload_n 1, 1) := by decide +kernel
theorem dX7_behindUnit_110 : decode cX7_behindUnit 110 = .ok (.iload_n 1, 1) := by decide +kernel
theorem dX7_behindUnit_111 : decode cX7_behindUnit 111 = .ok (.iconst 2, 1) := by decide +kernel
theorem dX7_behindUnit_112 : decode cX7_behindUnit 112 = .ok (.if_icmp .ne 8, 3) := by decide +kernel
theorem dX7_behindUnit_115 : decode cX7_behindUnit 115 = .ok (.bipush 38, 2) := by decide +kernel
theorem dX7_behindUnit_117 : decode cX7_behindUnit 117 = .ok (.goto 21, 3) := by decide +kernel
theorem dX7_behindUnit_120 : decode cX7_behindUnit 120 = .ok (.iload_n 1, 1) := by decide +kernel
theorem dX7_behindUnit_121 : decode cX7_behindUnit 121 = .ok (.iconst 1, 1) := by decide +kernel
theorem dX7_behindUnit_122 : decode cX7_behindUnit 122 = .ok (.if_icmp .ne 8, 3) := by decide +kernel
theorem dX7_behindUnit_125 : decode cX7_behindUnit 125 = .ok (.bipush 124, 2) := by decide +kernel
theorem dX7_behindUnit_127 : decode cX7_behindUnit 127 = .ok (.goto 11, 3) := by decide +kernel
theorem dX7_behindUnit_130 : decode cX7_behindUnit 130 = .ok (.aload_n 0, 1) := by decide +kernel
theorem dX7_behindUnit_131 : decode cX7_behindUnit 131 = .ok (.aload_n 0, 1) := by decide +kernel
theorem dX7_behindUnit_132 : decode cX7_behindUnit 132 = .ok (.getfield 160, 3) := by decide +kernel
theorem dX7_behindUnit_135 : decode cX7_behindUnit 135 = .ok (.invokevirtual 163, 3) := by decide +kernel
theorem dX7_behindUnit_138 : decode cX7_behindUnit 138 = .ok (.invokevirtual 267, 3) := by decide +kernel
theorem dX7_behindUnit_141 : decode cX7_behindUnit 141 = .ok (.aload_n 0, 1) := by decide +kernel
theorem dX7_behindUnit_142 : decode cX7_behindUnit 142 = .ok (.invokevirtual 199, 3) := by decide +kernel
theorem dX7_behindUnit_145 : decode cX7_behindUnit 145 = .ok (.iconst 1, 1) := by decide +kernel
theorem dX7_behindUnit_146 : decode cX7_behindUnit 146 = .ok (.ireturn, 1) := by decide +kernel
theorem dX7_behindUnit_147 : decode cX7_behindUnit 147 = .ok (.aload_n 0, 1) := by decide +kernel
theorem dX7_behindUnit_148 : decode cX7_behindUnit 148 = .ok (.dup, 1) := by decide +kernel
theorem dX7_behindUnit_149 : decode cX7_behindUnit 149 = .ok (.getfield 261, 3) := by decide +kernel
theorem dX7_behindUnit_152 : decode cX7_behindUnit 152 = .ok (.iconst 1, 1) := by decide +kernel
theorem dX7_behindUnit_153 : decode cX7_behindUnit 153 = .ok (.isub, 1) := by decide +kernel
theorem dX7_behindUnit_154 : decode cX7_behindUnit 154 = .ok (.putfield 261, 3) := by decide +kernel
theorem dX7_behindUnit_157 : decode cX7_behindUnit 157 = .ok (.aload_n 0, 1) := by decide +kernel
theorem dX7_behindUnit_158 : decode cX7_behindUnit 158 = .ok (.getfield 67, 3) := by decide +kernel
theorem dX7_behindUnit_161 : decode cX7_behindUnit 161 = .ok (.aload_n 0, 1) := by decide +kernel
theorem dX7_behindUnit_162 : decode cX7_behindUnit 162 = .ok (.getfield 261, 3) := by decide +kernel
theorem dX7_behindUnit_165 : decode cX7_behindUnit 165 = .ok (.iaload, 1) := by decide +kernel
theorem dX7_behindUnit_166 : decode cX7_behindUnit 166 = .ok (.bipush 7, 2) := by decide +kernel
theorem dX7_behindUnit_168 : decode cX7_behindUnit 168 = .ok (.if_icmp .ne 23, 3) := by decide +kernel
theorem dX7_behindUnit_171 : decode cX7_behindUnit 171 = .ok (.aload_n 0, 1) := by decide +kernel
theorem dX7_behindUnit_172 : decode cX7_behindUnit 172 = .ok (.dup, 1) := by decide +kernel
theorem dX7_behindUnit_173 : decode cX7_behindUnit 173 = .ok (.getfield 264, 3) := by decide +kernel
theorem dX7_behindUnit_176 : decode cX7_behindUnit 176 = .ok (.iconst 1, 1) := by decide +kernel
theorem dX7_behindUnit_177 : decode cX7_behindUnit 177 = .ok (.isub, 1) := by decide +kernel
theorem dX7_behindUnit_178 : decode cX7_behindUnit 178 = .ok (.putfield 264, 3) := by decide +kernel
theorem dX7_behindUnit_181 : decode cX7_behindUnit 181 = .ok (.aload_n 0, 1) := by decide +kernel
theorem dX7_behindUnit_182 : decode cX7_behindUnit 182 = .ok (.aload_n 0, 1) := by decide +kernel
theorem dX7_behindUnit_183 : decode cX7_behindUnit 183 = .ok (.bipush 41, 2) := by decide +kernel
theorem dX7_behindUnit_185 : decode cX7_behindUnit 185 = .ok (.invokevirtual 249, 3) := by decide +kernel
theorem dX7_behindUnit_188 : decode cX7_behindUnit 188 = .ok (.invokevirtual 252, 3) := by decide +kernel
theorem dX7_behindUnit_191 : decode cX7_behindUnit 191 = .ok (.iconst 0, 1) := by decide +kernel
theorem dX7_behindUnit_192 : decode cX7_behindUnit 192 = .ok (.ireturn, 1) := by decide +kernel
theorem dX7_two_0 : decode cX7_two 0 = .ok (.iload_n 0, 1) := by decide +kernel
theorem dX7_two_1 : decode cX7_two 1 = .ok (.tableswitch 202 37 62 #[143, 188, 202, 202, 202, 127, 119, 202, 123, 202, 131, 202, 202, 202, 202, 202, 202, 202, 202, 202, 202, 202, 202, 155, 177, 166], 119) := by decide +kernel
theorem dX7_two_120 : decode cX7_two 120 = .ok (.iload_n 1, 1) := by decide +kernel
theorem dX7_two_121 : decode cX7_two 121 = .ok (.iload_n 2, 1) := by decide +kernel
theorem dX7_two_122 : decode cX7_two 122 = .ok (.iadd, 1) := by decide +kernel
theorem dX7_two_123 : decode cX7_two 123 = .ok (.ireturn, 1) := by decide +kernel
theorem dX7_two_124 : decode cX7_two 124 = .ok (.iload_n 1, 1) := by decide +kernel
theorem dX7_two_125 : decode cX7_two 125 = .ok (.iload_n 2, 1) := by decide +kernel
theorem dX7_two_126 : decode cX7_two 126 = .ok (.isub, 1) := by decide +kernel
theorem dX7_two_127 : decode cX7_two 127 = .ok (.ireturn, 1) := by decide +kernel
theorem dX7_two_128 : decode cX7_two 128 = .ok (.iload_n 1, 1) := by decide +kernel
theorem dX7_two_129 : decode cX7_two 129 = .ok (.iload_n 2, 1) := by decide +kernel
theorem dX7_two_130 : decode cX7_two 130 = .ok (.imul, 1) := by decide +kernel
theorem dX7_two_131 : decode cX7_two 131 = .ok (.ireturn, 1) := by decide +kernel
theorem dX7_two_132 : decode cX7_two 132 = .ok (.iload_n 2, 1) := by decide +kernel
theorem dX7_two_133 : decode cX7_two 133 = .ok (.ifCond .ne 7, 3) := by decide +kernel
theorem dX7_two_136 : decode cX7_two 136 = .ok (.iconst 0, 1) := by decide +kernel
theorem dX7_two_137 : decode cX7_two 137 = .ok (.goto 6, 3) := by decide +kernel
theorem dX7_two_140 : decode cX7_two 140 = .ok (.iload_n 1, 1) := by decide +kernel
theorem dX7_two_141 : decode cX7_two 141 = .ok (.iload_n 2, 1) := by decide +kernel
theorem dX7_two_142 : decode cX7_two 142 = .ok (.idiv, 1) := by decide +kernel
theorem dX7_two_143 : decode cX7_two 143 = .ok (.ireturn, 1) := by decide +kernel
theorem dX7_two_144 : decode cX7_two 144 = .ok (.iload_n 2, 1) := by decide +kernel
theorem dX7_two_145 : decode cX7_two 145 = .ok (.ifCond .ne 7, 3) := by decide +kernel
theorem dX7_two_148 : decode cX7_two 148 = .ok (.iconst 0, 1) := by decide +kernel
theorem dX7_two_149 : decode cX7_two 149 = .ok (.goto 6, 3) := by decide +kernel
theorem dX7_two_152 : decode cX7_two 152 = .ok (.iload_n 1, 1) := by decide +kernel
theorem dX7_two_153 : decode cX7_two 153 = .ok (.iload_n 2, 1) := by decide +kernel
theorem dX7_two_154 : decode cX7_two 154 = .ok (.irem, 1) := by decide +kernel
theorem dX7_two_155 : decode cX7_two 155 = .ok (.ireturn, 1) := by decide +kernel
theorem dX7_two_156 : decode cX7_two 156 = .ok (.iload_n 1, 1) := by decide +kernel
theorem dX7_two_157 : decode cX7_two 157 = .ok (.iload_n 2, 1) := by decide +kernel
theorem dX7_two_158 : decode cX7_two 158 = .ok (.if_icmp .ge 7, 3) := by decide +kernel
theorem dX7_two_161 : decode cX7_two 161 = .ok (.iconst 1, 1) := by decide +kernel
theorem dX7_two_162 : decode cX7_two 162 = .ok (.goto 4, 3) := by decide +kernel
theorem dX7_two_165 : decode cX7_two 165 = .ok (.iconst 0, 1) := by decide +kernel
theorem dX7_two_166 : decode cX7_two 166 = .ok (.ireturn, 1) := by decide +kernel
theorem dX7_two_167 : decode cX7_two 167 = .ok (.iload_n 1, 1) := by decide +kernel
theorem dX7_two_168 : decode cX7_two 168 = .ok (.iload_n 2, 1) := by decide +kernel
theorem dX7_two_169 : decode cX7_two 169 = .ok (.if_icmp .le 7, 3) := by decide +kernel
theorem dX7_two_172 : decode cX7_two 172 = .ok (.iconst 1, 1) := by decide +kernel
theorem dX7_two_173 : decode cX7_two 173 = .ok (.goto 4, 3) := by decide +kernel
theorem dX7_two_176 : decode cX7_two 176 = .ok (.iconst 0, 1) := by decide +kernel
theorem dX7_two_177 : decode cX7_two 177 = .ok (.ireturn, 1) := by decide +kernel
theorem dX7_two_178 : decode cX7_two 178 = .ok (.iload_n 1, 1) := by decide +kernel
theorem dX7_two_179 : decode cX7_two 179 = .ok (.iload_n 2, 1) := by decide +kernel
theorem dX7_two_180 : decode cX7_two 180 = .ok (.if_icmp .ne 7, 3) := by decide +kernel
theorem dX7_two_183 : decode cX7_two 183 = .ok (.iconst 1, 1) := by decide +kernel
theorem dX7_two_184 : decode cX7_two 184 = .ok (.goto 4, 3) := by decide +kernel
theorem dX7_two_187 : decode cX7_two 187 = .ok (.iconst 0, 1) := by decide +kernel
theorem dX7_two_188 : decode cX7_two 188 = .ok (.ireturn, 1) := by decide +kernel
theorem dX7_two_189 : decode cX7_two 189 = .ok (.iload_n 1, 1) := by decide +kernel
theorem dX7_two_190 : decode cX7_two 190 = .ok (.ifCond .eq 11, 3) := by decide +kernel
theorem dX7_two_193 : decode cX7_two 193 = .ok (.iload_n 2, 1) := by decide +kernel
theorem dX7_two_194 : decode cX7_two 194 = .ok (.ifCond .eq 7, 3) := by decide +kernel
theorem dX7_two_197 : decode cX7_two 197 = .ok (.iconst 1, 1) := by decide +kernel
theorem dX7_two_198 : decode cX7_two 198 = .ok (.goto 4, 3) := by decide +kernel
theorem dX7_two_201 : decode cX7_two 201 = .ok (.iconst 0, 1) := by decide +kernel
theorem dX7_two_202 : decode cX7_two 202 = .ok (.ireturn, 1) := by decide +kernel
theorem dX7_two_203 : decode cX7_two 203 = .ok (.iload_n 1, 1) := by decide +kernel
theorem dX7_two_204 : decode cX7_two 204 = .ok (.ifCond .ne 7, 3) := by decide +kernel
theorem dX7_two_207 : decode cX7_two 207 = .ok (.iload_n 2, 1) := by decide +kernel
theorem dX7_two_208 : decode cX7_two 208 = .ok (.ifCond .eq 7, 3) := by decide +kernel
theorem dX7_two_211 : decode cX7_two 211 = .ok (.iconst 1, 1) := by decide +kernel
theorem dX7_two_212 : decode cX7_two 212 = .ok (.goto 4, 3) := by decide +kernel
theorem dX7_two_215 : decode cX7_two 215 = .ok (.iconst 0, 1) := by decide +kernel
theorem dX7_two_216 : decode cX7_two 216 = .ok (.ireturn, 1) := by decide +kernel
theorem dX7_asked_0 : decode cX7_asked 0 = .ok (.iload_n 1, 1) := by decide +kernel
theorem dX7_asked_1 : decode cX7_asked 1 = .ok (.lookupswitch 92 #[(98, 79), (102, 59), (107, 84), (116, 64), (117, 74), (119, 69)], 59) := by decide +kernel
theorem dX7_asked_60 : decode cX7_asked 60 = .ok (.aload_n 0, 1) := by decide +kernel
theorem dX7_asked_61 : decode cX7_asked 61 = .ok (.getfield 289, 3) := by decide +kernel
theorem dX7_asked_64 : decode cX7_asked 64 = .ok (.ireturn, 1) := by decide +kernel
theorem dX7_asked_65 : decode cX7_asked 65 = .ok (.aload_n 0, 1) := by decide +kernel
theorem dX7_asked_66 : decode cX7_asked 66 = .ok (.getfield 292, 3) := by decide +kernel
theorem dX7_asked_69 : decode cX7_asked 69 = .ok (.ireturn, 1) := by decide +kernel
theorem dX7_asked_70 : decode cX7_asked 70 = .ok (.aload_n 0, 1) := by decide +kernel
theorem dX7_asked_71 : decode cX7_asked 71 = .ok (.getfield 295, 3) := by decide +kernel
theorem dX7_asked_74 : decode cX7_asked 74 = .ok (.ireturn, 1) := by decide +kernel
theorem dX7_asked_75 : decode cX7_asked 75 = .ok (.aload_n 0, 1) := by decide +kernel
theorem dX7_asked_76 : decode cX7_asked 76 = .ok (.getfield 298, 3) := by decide +kernel
theorem dX7_asked_79 : decode cX7_asked 79 = .ok (.ireturn, 1) := by decide +kernel
theorem dX7_asked_80 : decode cX7_asked 80 = .ok (.aload_n 0, 1) := by decide +kernel
theorem dX7_asked_81 : decode cX7_asked 81 = .ok (.getfield 301, 3) := by decide +kernel
theorem dX7_asked_84 : decode cX7_asked 84 = .ok (.ireturn, 1) := by decide +kernel
theorem dX7_asked_85 : decode cX7_asked 85 = .ok (.aload_n 0, 1) := by decide +kernel
theorem dX7_asked_86 : decode cX7_asked 86 = .ok (.getfield 76, 3) := by decide +kernel
theorem dX7_asked_89 : decode cX7_asked 89 = .ok (.bipush 108, 2) := by decide +kernel
theorem dX7_asked_91 : decode cX7_asked 91 = .ok (.iaload, 1) := by decide +kernel
theorem dX7_asked_92 : decode cX7_asked 92 = .ok (.ireturn, 1) := by decide +kernel
theorem dX7_asked_93 : decode cX7_asked 93 = .ok (.iload_n 2, 1) := by decide +kernel
theorem dX7_asked_94 : decode cX7_asked 94 = .ok (.ireturn, 1) := by decide +kernel
theorem dX7_comes_0 : decode cX7_comes 0 = .ok (.iconst 0, 1) := by decide +kernel
theorem dX7_comes_1 : decode cX7_comes 1 = .ok (.istore_n 1, 1) := by decide +kernel
theorem dX7_comes_2 : decode cX7_comes 2 = .ok (.aload_n 0, 1) := by decide +kernel
theorem dX7_comes_3 : decode cX7_comes 3 = .ok (.getfield 48, 3) := by decide +kernel
theorem dX7_comes_6 : decode cX7_comes 6 = .ok (.aload_n 0, 1) := by decide +kernel
theorem dX7_comes_7 : decode cX7_comes 7 = .ok (.getfield 214, 3) := by decide +kernel
theorem dX7_comes_10 : decode cX7_comes 10 = .ok (.iaload, 1) := by decide +kernel
theorem dX7_comes_11 : decode cX7_comes 11 = .ok (.istore_n 2, 1) := by decide +kernel
theorem dX7_comes_12 : decode cX7_comes 12 = .ok (.iload_n 2, 1) := by decide +kernel
theorem dX7_comes_13 : decode cX7_comes 13 = .ok (.aload_n 0, 1) := by decide +kernel
theorem dX7_comes_14 : decode cX7_comes 14 = .ok (.getfield 51, 3) := by decide +kernel
theorem dX7_comes_17 : decode cX7_comes 17 = .ok (.aload_n 0, 1) := by decide +kernel
theorem dX7_comes_18 : decode cX7_comes 18 = .ok (.getfield 214, 3) := by decide +kernel
theorem dX7_comes_21 : decode cX7_comes 21 = .ok (.iaload, 1) := by decide +kernel
theorem dX7_comes_22 : decode cX7_comes 22 = .ok (.if_icmp .ge 108, 3) := by decide +kernel
theorem dX7_comes_25 : decode cX7_comes 25 = .ok (.aload_n 0, 1) := by decide +kernel
theorem dX7_comes_26 : decode cX7_comes 26 = .ok (.getfield 61, 3) := by decide +kernel
theorem dX7_comes_29 : decode cX7_comes 29 = .ok (.iload_n 2, 1) := by decide +kernel
theorem dX7_comes_30 : decode cX7_comes 30 = .ok (.iaload, 1) := by decide +kernel
theorem dX7_comes_31 : decode cX7_comes 31 = .ok (.istore_n 3, 1) := by decide +kernel
theorem dX7_comes_32 : decode cX7_comes 32 = .ok (.iload_n 3, 1) := by decide +kernel
theorem dX7_comes_33 : decode cX7_comes 33 = .ok (.bipush 126, 2) := by decide +kernel
theorem dX7_comes_35 : decode cX7_comes 35 = .ok (.if_icmp .ne 30, 3) := by decide +kernel
theorem dX7_comes_38 : decode cX7_comes 38 = .ok (.aload_n 0, 1) := by decide +kernel
theorem dX7_comes_39 : decode cX7_comes 39 = .ok (.getfield 73, 3) := by decide +kernel
theorem dX7_comes_42 : decode cX7_comes 42 = .ok (.iload_n 1, 1) := by decide +kernel
theorem dX7_comes_43 : decode cX7_comes 43 = .ok (.iconst 1, 1) := by decide +kernel
theorem dX7_comes_44 : decode cX7_comes 44 = .ok (.isub, 1) := by decide +kernel
theorem dX7_comes_45 : decode cX7_comes 45 = .ok (.aload_n 0, 1) := by decide +kernel
theorem dX7_comes_46 : decode cX7_comes 46 = .ok (.getfield 73, 3) := by decide +kernel
theorem dX7_comes_49 : decode cX7_comes 49 = .ok (.iload_n 1, 1) := by decide +kernel
theorem dX7_comes_50 : decode cX7_comes 50 = .ok (.iconst 1, 1) := by decide +kernel
theorem dX7_comes_51 : decode cX7_comes 51 = .ok (.isub, 1) := by decide +kernel
theorem dX7_comes_52 : decode cX7_comes 52 = .ok (.iaload, 1) := by decide +kernel
theorem dX7_comes_53 : decode cX7_comes 53 = .ok (.ifCond .ne 7, 3) := by decide +kernel
theorem dX7_comes_56 : decode cX7_comes 56 = .ok (.iconst 1, 1) := by decide +kernel
theorem dX7_comes_57 : decode cX7_comes 57 = .ok (.goto 4, 3) := by decide +kernel
theorem dX7_comes_60 : decode cX7_comes 60 = .ok (.iconst 0, 1) := by decide +kernel
theorem dX7_comes_61 : decode cX7_comes 61 = .ok (.iastore, 1) := by decide +kernel
theorem dX7_comes_62 : decode cX7_comes 62 = .ok (.goto 62, 3) := by decide +kernel
theorem dX7_comes_65 : decode cX7_comes 65 = .ok (.iload_n 3, 1) := by decide +kernel
theorem dX7_comes_66 : decode cX7_comes 66 = .ok (.invokestatic 170, 3) := by decide +kernel
theorem dX7_comes_69 : decode cX7_comes 69 = .ok (.ifCond .eq 26, 3) := by decide +kernel
theorem dX7_comes_72 : decode cX7_comes 72 = .ok (.aload_n 0, 1) := by decide +kernel
theorem dX7_comes_73 : decode cX7_comes 73 = .ok (.getfield 73, 3) := by decide +kernel
theorem dX7_comes_76 : decode cX7_comes 76 = .ok (.iload_n 1, 1) := by decide +kernel
theorem dX7_comes_77 : decode cX7_comes 77 = .ok (.aload_n 0, 1) := by decide +kernel
theorem dX7_comes_78 : decode cX7_comes 78 = .ok (.iload_n 3, 1) := by decide +kernel
theorem dX7_comes_79 : decode cX7_comes 79 = .ok (.aload_n 0, 1) := by decide +kernel
theorem dX7_comes_80 : decode cX7_comes 80 = .ok (.getfield 64, 3) := by decide +kernel
theorem dX7_comes_83 : decode cX7_comes 83 = .ok (.iload_n 2, 1) := by decide +kernel
theorem dX7_comes_84 : decode cX7_comes 84 = .ok (.iaload, 1) := by decide +kernel
theorem dX7_comes_85 : decode cX7_comes 85 = .ok (.invokevirtual 304, 3) := by decide +kernel
theorem dX7_comes_88 : decode cX7_comes 88 = .ok (.iastore, 1) := by decide +kernel
theorem dX7_comes_89 : decode cX7_comes 89 = .ok (.iinc 1 1, 3) := by decide +kernel
theorem dX7_comes_92 : decode cX7_comes 92 = .ok (.goto 32, 3) := by decide +kernel
theorem dX7_comes_95 : decode cX7_comes 95 = .ok (.iinc 1 (-1), 3) := by decide +kernel
theorem dX7_comes_98 : decode cX7_comes 98 = .ok (.aload_n 0, 1) := by decide +kernel
theorem dX7_comes_99 : decode cX7_comes 99 = .ok (.getfield 73, 3) := by decide +kernel
theorem dX7_comes_102 : decode cX7_comes 102 = .ok (.iload_n 1, 1) := by decide +kernel
theorem dX7_comes_103 : decode cX7_comes 103 = .ok (.iconst 1, 1) := by decide +kernel
theorem dX7_comes_104 : decode cX7_comes 104 = .ok (.isub, 1) := by decide +kernel
theorem dX7_comes_105 : decode cX7_comes 105 = .ok (.iload_n 3, 1) := by decide +kernel
theorem dX7_comes_106 : decode cX7_comes 106 = .ok (.aload_n 0, 1) := by decide +kernel
theorem dX7_comes_107 : decode cX7_comes 107 = .ok (.getfield 73, 3) := by decide +kernel
theorem dX7_comes_110 : decode cX7_comes 110 = .ok (.iload_n 1, 1) := by decide +kernel
theorem dX7_comes_111 : decode cX7_comes 111 = .ok (.iconst 1, 1) := by decide +kernel
theorem dX7_comes_112 : decode cX7_comes 112 = .ok (.isub, 1) := by decide +kernel
theorem dX7_comes_113 : decode cX7_comes 113 = .ok (.iaload, 1) := by decide +kernel
theorem dX7_comes_114 : decode cX7_comes 114 = .ok (.aload_n 0, 1) := by decide +kernel
theorem dX7_comes_115 : decode cX7_comes 115 = .ok (.getfield 73, 3) := by decide +kernel
theorem dX7_comes_118 : decode cX7_comes 118 = .ok (.iload_n 1, 1) := by decide +kernel
theorem dX7_comes_119 : decode cX7_comes 119 = .ok (.iaload, 1) := by decide +kernel
theorem dX7_comes_120 : decode cX7_comes 120 = .ok (.invokestatic 307, 3) := by decide +kernel
theorem dX7_comes_123 : decode cX7_comes 123 = .ok (.iastore, 1) := by decide +kernel
theorem dX7_comes_124 : decode cX7_comes 124 = .ok (.iinc 2 1, 3) := by decide +kernel
theorem dX7_comes_127 : decode cX7_comes 127 = .ok (.goto (-115), 3) := by decide +kernel
theorem dX7_comes_130 : decode cX7_comes 130 = .ok (.aload_n 0, 1) := by decide +kernel
theorem dX7_comes_131 : decode cX7_comes 131 = .ok (.getfield 73, 3) := by decide +kernel
theorem dX7_comes_134 : decode cX7_comes 134 = .ok (.iconst 0, 1) := by decide +kernel
theorem dX7_comes_135 : decode cX7_comes 135 = .ok (.iaload, 1) := by decide +kernel
theorem dX7_comes_136 : decode cX7_comes 136 = .ok (.ireturn, 1) := by decide +kernel
theorem dX7_fault_0 : decode cX7_fault 0 = .ok (.iload_n 1, 1) := by decide +kernel
theorem dX7_fault_1 : decode cX7_fault 1 = .ok (.ifCond .ne 10, 3) := by decide +kernel
theorem dX7_fault_4 : decode cX7_fault 4 = .ok (.aload_n 0, 1) := by decide +kernel
theorem dX7_fault_5 : decode cX7_fault 5 = .ok (.getfield 122, 3) := by decide +kernel
theorem dX7_fault_8 : decode cX7_fault 8 = .ok (.goto 16, 3) := by decide +kernel
theorem dX7_fault_11 : decode cX7_fault 11 = .ok (.iload_n 1, 1) := by decide +kernel
theorem dX7_fault_12 : decode cX7_fault 12 = .ok (.iconst 1, 1) := by decide +kernel
theorem dX7_fault_13 : decode cX7_fault 13 = .ok (.if_icmp .ne 10, 3) := by decide +kernel
theorem dX7_fault_16 : decode cX7_fault 16 = .ok (.aload_n 0, 1) := by decide +kernel
theorem dX7_fault_17 : decode cX7_fault 17 = .ok (.getfield 16, 3) := by decide +kernel
theorem dX7_fault_20 : decode cX7_fault 20 = .ok (.goto 4, 3) := by decide +kernel
theorem dX7_fault_23 : decode cX7_fault 23 = .ok (.iconst (-1), 1) := by decide +kernel
theorem dX7_fault_24 : decode cX7_fault 24 = .ok (.ireturn, 1) := by decide +kernel
theorem dX7_isIn_0 : decode cX7_isIn 0 = .ok (.iload_n 0, 1) := by decide +kernel
theorem dX7_isIn_1 : decode cX7_isIn 1 = .ok (.iload_n 1, 1) := by decide +kernel
theorem dX7_isIn_2 : decode cX7_isIn 2 = .ok (.if_icmp .lt 12, 3) := by decide +kernel
theorem dX7_isIn_5 : decode cX7_isIn 5 = .ok (.iload_n 0, 1) := by decide +kernel
theorem dX7_isIn_6 : decode cX7_isIn 6 = .ok (.iload_n 2, 1) := by decide +kernel
theorem dX7_isIn_7 : decode cX7_isIn 7 = .ok (.if_icmp .gt 7, 3) := by decide +kernel
theorem dX7_isIn_10 : decode cX7_isIn 10 = .ok (.iconst 1, 1) := by decide +kernel
theorem dX7_isIn_11 : decode cX7_isIn 11 = .ok (.goto 4, 3) := by decide +kernel
theorem dX7_isIn_14 : decode cX7_isIn 14 = .ok (.iconst 0, 1) := by decide +kernel
theorem dX7_isIn_15 : decode cX7_isIn 15 = .ok (.ireturn, 1) := by decide +kernel
theorem dX7_held_0 : decode cX7_held 0 = .ok (.iload_n 0, 1) := by decide +kernel
theorem dX7_held_1 : decode cX7_held 1 = .ok (.iload_n 1, 1) := by decide +kernel
theorem dX7_held_2 : decode cX7_held 2 = .ok (.if_icmp .ge 7, 3) := by decide +kernel
theorem dX7_held_5 : decode cX7_held 5 = .ok (.iload_n 1, 1) := by decide +kernel
theorem dX7_held_6 : decode cX7_held 6 = .ok (.goto 13, 3) := by decide +kernel
theorem dX7_held_9 : decode cX7_held 9 = .ok (.iload_n 0, 1) := by decide +kernel
theorem dX7_held_10 : decode cX7_held 10 = .ok (.iload_n 2, 1) := by decide +kernel
theorem dX7_held_11 : decode cX7_held 11 = .ok (.if_icmp .le 7, 3) := by decide +kernel
theorem dX7_held_14 : decode cX7_held 14 = .ok (.iload_n 2, 1) := by decide +kernel
theorem dX7_held_15 : decode cX7_held 15 = .ok (.goto 4, 3) := by decide +kernel
theorem dX7_held_18 : decode cX7_held 18 = .ok (.iload_n 0, 1) := by decide +kernel
theorem dX7_held_19 : decode cX7_held 19 = .ok (.ireturn, 1) := by decide +kernel
theorem dX7_bit_0 : decode cX7_bit 0 = .ok (.iload_n 0, 1) := by decide +kernel
theorem dX7_bit_1 : decode cX7_bit 1 = .ok (.iload_n 1, 1) := by decide +kernel
theorem dX7_bit_2 : decode cX7_bit 2 = .ok (.ishr, 1) := by decide +kernel
theorem dX7_bit_3 : decode cX7_bit 3 = .ok (.iconst 1, 1) := by decide +kernel
theorem dX7_bit_4 : decode cX7_bit 4 = .ok (.iand, 1) := by decide +kernel
theorem dX7_bit_5 : decode cX7_bit 5 = .ok (.iconst 1, 1) := by decide +kernel
theorem dX7_bit_6 : decode cX7_bit 6 = .ok (.if_icmp .ne 7, 3) := by decide +kernel
theorem dX7_bit_9 : decode cX7_bit 9 = .ok (.iconst 1, 1) := by decide +kernel
theorem dX7_bit_10 : decode cX7_bit 10 = .ok (.goto 4, 3) := by decide +kernel
theorem dX7_bit_13 : decode cX7_bit 13 = .ok (.iconst 0, 1) := by decide +kernel
theorem dX7_bit_14 : decode cX7_bit 14 = .ok (.ireturn, 1) := by decide +kernel
theorem dX7_bitsOf_0 : decode cX7_bitsOf 0 = .ok (.iconst 0, 1) := by decide +kernel
theorem dX7_bitsOf_1 : decode cX7_bitsOf 1 = .ok (.istore_n 1, 1) := by decide +kernel
theorem dX7_bitsOf_2 : decode cX7_bitsOf 2 = .ok (.iload_n 0, 1) := by decide +kernel
theorem dX7_bitsOf_3 : decode cX7_bitsOf 3 = .ok (.istore_n 2, 1) := by decide +kernel
theorem dX7_bitsOf_4 : decode cX7_bitsOf 4 = .ok (.iload_n 2, 1) := by decide +kernel
theorem dX7_bitsOf_5 : decode cX7_bitsOf 5 = .ok (.ifCond .eq 15, 3) := by decide +kernel
theorem dX7_bitsOf_8 : decode cX7_bitsOf 8 = .ok (.iinc 1 1, 3) := by decide +kernel
theorem dX7_bitsOf_11 : decode cX7_bitsOf 11 = .ok (.iload_n 2, 1) := by decide +kernel
theorem dX7_bitsOf_12 : decode cX7_bitsOf 12 = .ok (.iload_n 2, 1) := by decide +kernel
theorem dX7_bitsOf_13 : decode cX7_bitsOf 13 = .ok (.iconst 1, 1) := by decide +kernel
theorem dX7_bitsOf_14 : decode cX7_bitsOf 14 = .ok (.isub, 1) := by decide +kernel
theorem dX7_bitsOf_15 : decode cX7_bitsOf 15 = .ok (.iand, 1) := by decide +kernel
theorem dX7_bitsOf_16 : decode cX7_bitsOf 16 = .ok (.istore_n 2, 1) := by decide +kernel
theorem dX7_bitsOf_17 : decode cX7_bitsOf 17 = .ok (.goto (-13), 3) := by decide +kernel
theorem dX7_bitsOf_20 : decode cX7_bitsOf 20 = .ok (.iload_n 1, 1) := by decide +kernel
theorem dX7_bitsOf_21 : decode cX7_bitsOf 21 = .ok (.ireturn, 1) := by decide +kernel
theorem dX7_divisor_0 : decode cX7_divisor 0 = .ok (.iload_n 0, 1) := by decide +kernel
theorem dX7_divisor_1 : decode cX7_divisor 1 = .ok (.istore_n 2, 1) := by decide +kernel
theorem dX7_divisor_2 : decode cX7_divisor 2 = .ok (.iload_n 1, 1) := by decide +kernel
theorem dX7_divisor_3 : decode cX7_divisor 3 = .ok (.istore_n 3, 1) := by decide +kernel
theorem dX7_divisor_4 : decode cX7_divisor 4 = .ok (.iload_n 3, 1) := by decide +kernel
theorem dX7_divisor_5 : decode cX7_divisor 5 = .ok (.ifCond .le 16, 3) := by decide +kernel
theorem dX7_divisor_8 : decode cX7_divisor 8 = .ok (.iload_n 2, 1) := by decide +kernel
theorem dX7_divisor_9 : decode cX7_divisor 9 = .ok (.iload_n 3, 1) := by decide +kernel
theorem dX7_divisor_10 : decode cX7_divisor 10 = .ok (.irem, 1) := by decide +kernel
theorem dX7_divisor_11 : decode cX7_divisor 11 = .ok (.istore 4, 2) := by decide +kernel
theorem dX7_divisor_13 : decode cX7_divisor 13 = .ok (.iload_n 3, 1) := by decide +kernel
theorem dX7_divisor_14 : decode cX7_divisor 14 = .ok (.istore_n 2, 1) := by decide +kernel
theorem dX7_divisor_15 : decode cX7_divisor 15 = .ok (.iload 4, 2) := by decide +kernel
theorem dX7_divisor_17 : decode cX7_divisor 17 = .ok (.istore_n 3, 1) := by decide +kernel
theorem dX7_divisor_18 : decode cX7_divisor 18 = .ok (.goto (-14), 3) := by decide +kernel
theorem dX7_divisor_21 : decode cX7_divisor 21 = .ok (.iload_n 2, 1) := by decide +kernel
theorem dX7_divisor_22 : decode cX7_divisor 22 = .ok (.ireturn, 1) := by decide +kernel
theorem dX7_power_0 : decode cX7_power 0 = .ok (.iconst 1, 1) := by decide +kernel
theorem dX7_power_1 : decode cX7_power 1 = .ok (.istore_n 2, 1) := by decide +kernel
theorem dX7_power_2 : decode cX7_power 2 = .ok (.iconst 0, 1) := by decide +kernel
theorem dX7_power_3 : decode cX7_power 3 = .ok (.istore_n 3, 1) := by decide +kernel
theorem dX7_power_4 : decode cX7_power 4 = .ok (.iload_n 3, 1) := by decide +kernel
theorem dX7_power_5 : decode cX7_power 5 = .ok (.iload_n 1, 1) := by decide +kernel
theorem dX7_power_6 : decode cX7_power 6 = .ok (.if_icmp .ge 13, 3) := by decide +kernel
theorem dX7_power_9 : decode cX7_power 9 = .ok (.iload_n 2, 1) := by decide +kernel
theorem dX7_power_10 : decode cX7_power 10 = .ok (.iload_n 0, 1) := by decide +kernel
theorem dX7_power_11 : decode cX7_power 11 = .ok (.imul, 1) := by decide +kernel
theorem dX7_power_12 : decode cX7_power 12 = .ok (.istore_n 2, 1) := by decide +kernel
theorem dX7_power_13 : decode cX7_power 13 = .ok (.iinc 3 1, 3) := by decide +kernel
theorem dX7_power_16 : decode cX7_power 16 = .ok (.goto (-12), 3) := by decide +kernel
theorem dX7_power_19 : decode cX7_power 19 = .ok (.iload_n 2, 1) := by decide +kernel
theorem dX7_power_20 : decode cX7_power 20 = .ok (.ireturn, 1) := by decide +kernel
theorem dX7_lots_0 : decode cX7_lots 0 = .ok (.aload_n 0, 1) := by decide +kernel
theorem dX7_lots_1 : decode cX7_lots 1 = .ok (.getfield 76, 3) := by decide +kernel
theorem dX7_lots_4 : decode cX7_lots 4 = .ok (.iconst 0, 1) := by decide +kernel
theorem dX7_lots_5 : decode cX7_lots 5 = .ok (.iaload, 1) := by decide +kernel
theorem dX7_lots_6 : decode cX7_lots 6 = .ok (.ireturn, 1) := by decide +kernel
theorem dX7_nodeAt_0 : decode cX7_nodeAt 0 = .ok (.aload_n 0, 1) := by decide +kernel
theorem dX7_nodeAt_1 : decode cX7_nodeAt 1 = .ok (.getfield 76, 3) := by decide +kernel
theorem dX7_nodeAt_4 : decode cX7_nodeAt 4 = .ok (.iconst 1, 1) := by decide +kernel
theorem dX7_nodeAt_5 : decode cX7_nodeAt 5 = .ok (.iload_n 1, 1) := by decide +kernel
theorem dX7_nodeAt_6 : decode cX7_nodeAt 6 = .ok (.iadd, 1) := by decide +kernel
theorem dX7_nodeAt_7 : decode cX7_nodeAt 7 = .ok (.iaload, 1) := by decide +kernel
theorem dX7_nodeAt_8 : decode cX7_nodeAt 8 = .ok (.ireturn, 1) := by decide +kernel
theorem dX7_hasAt_0 : decode cX7_hasAt 0 = .ok (.aload_n 0, 1) := by decide +kernel
theorem dX7_hasAt_1 : decode cX7_hasAt 1 = .ok (.getfield 76, 3) := by decide +kernel
theorem dX7_hasAt_4 : decode cX7_hasAt 4 = .ok (.bipush 7, 2) := by decide +kernel
theorem dX7_hasAt_6 : decode cX7_hasAt 6 = .ok (.aload_n 0, 1) := by decide +kernel
theorem dX7_hasAt_7 : decode cX7_hasAt 7 = .ok (.iload_n 1, 1) := by decide +kernel
theorem dX7_hasAt_8 : decode cX7_hasAt 8 = .ok (.invokevirtual 310, 3) := by decide +kernel
theorem dX7_hasAt_11 : decode cX7_hasAt 11 = .ok (.iadd, 1) := by decide +kernel
theorem dX7_hasAt_12 : decode cX7_hasAt 12 = .ok (.iaload, 1) := by decide +kernel
theorem dX7_hasAt_13 : decode cX7_hasAt 13 = .ok (.ireturn, 1) := by decide +kernel
theorem dX7_cleanAt_0 : decode cX7_cleanAt 0 = .ok (.aload_n 0, 1) := by decide +kernel
theorem dX7_cleanAt_1 : decode cX7_cleanAt 1 = .ok (.getfield 76, 3) := by decide +kernel
theorem dX7_cleanAt_4 : decode cX7_cleanAt 4 = .ok (.bipush 15, 2) := by decide +kernel
theorem dX7_cleanAt_6 : decode cX7_cleanAt 6 = .ok (.aload_n 0, 1) := by decide +kernel
theorem dX7_cleanAt_7 : decode cX7_cleanAt 7 = .ok (.iload_n 1, 1) := by decide +kernel
theorem dX7_cleanAt_8 : decode cX7_cleanAt 8 = .ok (.invokevirtual 310, 3) := by decide +kernel
theorem dX7_cleanAt_11 : decode cX7_cleanAt 11 = .ok (.iadd, 1) := by decide +kernel
theorem dX7_cleanAt_12 : decode cX7_cleanAt 12 = .ok (.iaload, 1) := by decide +kernel
theorem dX7_cleanAt_13 : decode cX7_cleanAt 13 = .ok (.ireturn, 1) := by decide +kernel
theorem dX7_placeOf_0 : decode cX7_placeOf 0 = .ok (.iconst 0, 1) := by decide +kernel
theorem dX7_placeOf_1 : decode cX7_placeOf 1 = .ok (.istore_n 2, 1) := by decide +kernel
theorem dX7_placeOf_2 : decode cX7_placeOf 2 = .ok (.iload_n 2, 1) := by decide +kernel
theorem dX7_placeOf_3 : decode cX7_placeOf 3 = .ok (.aload_n 0, 1) := by decide +kernel
theorem dX7_placeOf_4 : decode cX7_placeOf 4 = .ok (.invokevirtual 313, 3) := by decide +kernel
theorem dX7_placeOf_7 : decode cX7_placeOf 7 = .ok (.if_icmp .ge 20, 3) := by decide +kernel
theorem dX7_placeOf_10 : decode cX7_placeOf 10 = .ok (.aload_n 0, 1) := by decide +kernel
theorem dX7_placeOf_11 : decode cX7_placeOf 11 = .ok (.iload_n 2, 1) := by decide +kernel
theorem dX7_placeOf_12 : decode cX7_placeOf 12 = .ok (.invokevirtual 310, 3) := by decide +kernel
theorem dX7_placeOf_15 : decode cX7_placeOf 15 = .ok (.iload_n 1, 1) := by decide +kernel
theorem dX7_placeOf_16 : decode cX7_placeOf 16 = .ok (.if_icmp .ne 5, 3) := by decide +kernel
theorem dX7_placeOf_19 : decode cX7_placeOf 19 = .ok (.iload_n 2, 1) := by decide +kernel
theorem dX7_placeOf_20 : decode cX7_placeOf 20 = .ok (.ireturn, 1) := by decide +kernel
theorem dX7_placeOf_21 : decode cX7_placeOf 21 = .ok (.iinc 2 1, 3) := by decide +kernel
theorem dX7_placeOf_24 : decode cX7_placeOf 24 = .ok (.goto (-22), 3) := by decide +kernel
theorem dX7_placeOf_27 : decode cX7_placeOf 27 = .ok (.iconst (-1), 1) := by decide +kernel
theorem dX7_placeOf_28 : decode cX7_placeOf 28 = .ok (.ireturn, 1) := by decide +kernel
theorem dX7_isNode_0 : decode cX7_isNode 0 = .ok (.iload_n 1, 1) := by decide +kernel
theorem dX7_isNode_1 : decode cX7_isNode 1 = .ok (.iconst 0, 1) := by decide +kernel
theorem dX7_isNode_2 : decode cX7_isNode 2 = .ok (.aload_n 0, 1) := by decide +kernel
theorem dX7_isNode_3 : decode cX7_isNode 3 = .ok (.getfield 20, 3) := by decide +kernel
theorem dX7_isNode_6 : decode cX7_isNode 6 = .ok (.aload_n 0, 1) := by decide +kernel
theorem dX7_isNode_7 : decode cX7_isNode 7 = .ok (.getfield 214, 3) := by decide +kernel
theorem dX7_isNode_10 : decode cX7_isNode 10 = .ok (.iaload, 1) := by decide +kernel
theorem dX7_isNode_11 : decode cX7_isNode 11 = .ok (.iconst 1, 1) := by decide +kernel
theorem dX7_isNode_12 : decode cX7_isNode 12 = .ok (.isub, 1) := by decide +kernel
theorem dX7_isNode_13 : decode cX7_isNode 13 = .ok (.invokestatic 316, 3) := by decide +kernel
theorem dX7_isNode_16 : decode cX7_isNode 16 = .ok (.ireturn, 1) := by decide +kernel
theorem dX7_isMember_0 : decode cX7_isMember 0 = .ok (.aload_n 0, 1) := by decide +kernel
theorem dX7_isMember_1 : decode cX7_isMember 1 = .ok (.iload_n 1, 1) := by decide +kernel
theorem dX7_isMember_2 : decode cX7_isMember 2 = .ok (.invokevirtual 320, 3) := by decide +kernel
theorem dX7_isMember_5 : decode cX7_isMember 5 = .ok (.ifCond .eq 15, 3) := by decide +kernel
theorem dX7_isMember_8 : decode cX7_isMember 8 = .ok (.aload_n 0, 1) := by decide +kernel
theorem dX7_isMember_9 : decode cX7_isMember 9 = .ok (.iload_n 1, 1) := by decide +kernel
theorem dX7_isMember_10 : decode cX7_isMember 10 = .ok (.invokevirtual 323, 3) := by decide +kernel
theorem dX7_isMember_13 : decode cX7_isMember 13 = .ok (.ifCond .lt 7, 3) := by decide +kernel
theorem dX7_isMember_16 : decode cX7_isMember 16 = .ok (.iconst 1, 1) := by decide +kernel
theorem dX7_isMember_17 : decode cX7_isMember 17 = .ok (.goto 4, 3) := by decide +kernel
theorem dX7_isMember_20 : decode cX7_isMember 20 = .ok (.iconst 0, 1) := by decide +kernel
theorem dX7_isMember_21 : decode cX7_isMember 21 = .ok (.ireturn, 1) := by decide +kernel
theorem dX7_isKey_0 : decode cX7_isKey 0 = .ok (.iload_n 1, 1) := by decide +kernel
theorem dX7_isKey_1 : decode cX7_isKey 1 = .ok (.iconst 0, 1) := by decide +kernel
theorem dX7_isKey_2 : decode cX7_isKey 2 = .ok (.aload_n 0, 1) := by decide +kernel
theorem dX7_isKey_3 : decode cX7_isKey 3 = .ok (.getfield 27, 3) := by decide +kernel
theorem dX7_isKey_6 : decode cX7_isKey 6 = .ok (.aload_n 0, 1) := by decide +kernel
theorem dX7_isKey_7 : decode cX7_isKey 7 = .ok (.getfield 214, 3) := by decide +kernel
theorem dX7_isKey_10 : decode cX7_isKey 10 = .ok (.iaload, 1) := by decide +kernel
theorem dX7_isKey_11 : decode cX7_isKey 11 = .ok (.iconst 1, 1) := by decide +kernel
theorem dX7_isKey_12 : decode cX7_isKey 12 = .ok (.isub, 1) := by decide +kernel
theorem dX7_isKey_13 : decode cX7_isKey 13 = .ok (.invokestatic 316, 3) := by decide +kernel
theorem dX7_isKey_16 : decode cX7_isKey 16 = .ok (.ireturn, 1) := by decide +kernel
theorem dX7_startAnew_0 : decode cX7_startAnew 0 = .ok (.aload_n 0, 1) := by decide +kernel
theorem dX7_startAnew_1 : decode cX7_startAnew 1 = .ok (.invokevirtual 326, 3) := by decide +kernel
theorem dX7_startAnew_4 : decode cX7_startAnew 4 = .ok (.aload_n 0, 1) := by decide +kernel
theorem dX7_startAnew_5 : decode cX7_startAnew 5 = .ok (.iconst 0, 1) := by decide +kernel
theorem dX7_startAnew_6 : decode cX7_startAnew 6 = .ok (.putfield 329, 3) := by decide +kernel
theorem dX7_startAnew_9 : decode cX7_startAnew 9 = .ok (.aload_n 0, 1) := by decide +kernel
theorem dX7_startAnew_10 : decode cX7_startAnew 10 = .ok (.iconst 0, 1) := by decide +kernel
theorem dX7_startAnew_11 : decode cX7_startAnew 11 = .ok (.putfield 332, 3) := by decide +kernel
theorem dX7_startAnew_14 : decode cX7_startAnew 14 = .ok (.aload_n 0, 1) := by decide +kernel
theorem dX7_startAnew_15 : decode cX7_startAnew 15 = .ok (.iconst 0, 1) := by decide +kernel
theorem dX7_startAnew_16 : decode cX7_startAnew 16 = .ok (.putfield 335, 3) := by decide +kernel
theorem dX7_startAnew_19 : decode cX7_startAnew 19 = .ok (.aload_n 0, 1) := by decide +kernel
theorem dX7_startAnew_20 : decode cX7_startAnew 20 = .ok (.iconst 0, 1) := by decide +kernel
theorem dX7_startAnew_21 : decode cX7_startAnew 21 = .ok (.putfield 338, 3) := by decide +kernel
theorem dX7_startAnew_24 : decode cX7_startAnew 24 = .ok (.iconst 0, 1) := by decide +kernel
theorem dX7_startAnew_25 : decode cX7_startAnew 25 = .ok (.istore_n 1, 1) := by decide +kernel
theorem dX7_startAnew_26 : decode cX7_startAnew 26 = .ok (.iload_n 1, 1) := by decide +kernel
theorem dX7_startAnew_27 : decode cX7_startAnew 27 = .ok (.iconst 3, 1) := by decide +kernel
theorem dX7_startAnew_28 : decode cX7_startAnew 28 = .ok (.if_icmp .ge 16, 3) := by decide +kernel
theorem dX7_startAnew_31 : decode cX7_startAnew 31 = .ok (.aload_n 0, 1) := by decide +kernel
theorem dX7_startAnew_32 : decode cX7_startAnew 32 = .ok (.getfield 109, 3) := by decide +kernel
theorem dX7_startAnew_35 : decode cX7_startAnew 35 = .ok (.iload_n 1, 1) := by decide +kernel
theorem dX7_startAnew_36 : decode cX7_startAnew 36 = .ok (.iconst 0, 1) := by decide +kernel
theorem dX7_startAnew_37 : decode cX7_startAnew 37 = .ok (.bastore, 1) := by decide +kernel
theorem dX7_startAnew_38 : decode cX7_startAnew 38 = .ok (.iinc 1 1, 3) := by decide +kernel
theorem dX7_startAnew_41 : decode cX7_startAnew 41 = .ok (.goto (-15), 3) := by decide +kernel
theorem dX7_startAnew_44 : decode cX7_startAnew 44 = .ok (.return_, 1) := by decide +kernel
theorem dX7_layTold_0 : decode cX7_layTold 0 = .ok (.iconst 0, 1) := by decide +kernel
theorem dX7_layTold_1 : decode cX7_layTold 1 = .ok (.istore_n 1, 1) := by decide +kernel
theorem dX7_layTold_2 : decode cX7_layTold 2 = .ok (.iload_n 1, 1) := by decide +kernel
theorem dX7_layTold_3 : decode cX7_layTold 3 = .ok (.sipush 520, 3) := by decide +kernel
theorem dX7_layTold_6 : decode cX7_layTold 6 = .ok (.if_icmp .ge 16, 3) := by decide +kernel
theorem dX7_layTold_9 : decode cX7_layTold 9 = .ok (.aload_n 0, 1) := by decide +kernel
theorem dX7_layTold_10 : decode cX7_layTold 10 = .ok (.getfield 76, 3) := by decide +kernel
theorem dX7_layTold_13 : decode cX7_layTold 13 = .ok (.iload_n 1, 1) := by decide +kernel
theorem dX7_layTold_14 : decode cX7_layTold 14 = .ok (.iconst 0, 1) := by decide +kernel
theorem dX7_layTold_15 : decode cX7_layTold 15 = .ok (.iastore, 1) := by decide +kernel
theorem dX7_layTold_16 : decode cX7_layTold 16 = .ok (.iinc 1 1, 3) := by decide +kernel
theorem dX7_layTold_19 : decode cX7_layTold 19 = .ok (.goto (-17), 3) := by decide +kernel
theorem dX7_layTold_22 : decode cX7_layTold 22 = .ok (.aload_n 0, 1) := by decide +kernel
theorem dX7_layTold_23 : decode cX7_layTold 23 = .ok (.getfield 76, 3) := by decide +kernel
theorem dX7_layTold_26 : decode cX7_layTold 26 = .ok (.iconst 0, 1) := by decide +kernel
theorem dX7_layTold_27 : decode cX7_layTold 27 = .ok (.aload_n 0, 1) := by decide +kernel
theorem dX7_layTold_28 : decode cX7_layTold 28 = .ok (.getfield 24, 3) := by decide +kernel
theorem dX7_layTold_31 : decode cX7_layTold 31 = .ok (.aload_n 0, 1) := by decide +kernel
theorem dX7_layTold_32 : decode cX7_layTold 32 = .ok (.getfield 214, 3) := by decide +kernel
theorem dX7_layTold_35 : decode cX7_layTold 35 = .ok (.iaload, 1) := by decide +kernel
theorem dX7_layTold_36 : decode cX7_layTold 36 = .ok (.iastore, 1) := by decide +kernel
theorem dX7_layTold_37 : decode cX7_layTold 37 = .ok (.iconst 0, 1) := by decide +kernel
theorem dX7_layTold_38 : decode cX7_layTold 38 = .ok (.istore_n 1, 1) := by decide +kernel
theorem dX7_layTold_39 : decode cX7_layTold 39 = .ok (.iload_n 1, 1) := by decide +kernel
theorem dX7_layTold_40 : decode cX7_layTold 40 = .ok (.aload_n 0, 1) := by decide +kernel
theorem dX7_layTold_41 : decode cX7_layTold 41 = .ok (.invokevirtual 313, 3) := by decide +kernel
theorem dX7_layTold_44 : decode cX7_layTold 44 = .ok (.if_icmp .ge 31, 3) := by decide +kernel
theorem dX7_layTold_47 : decode cX7_layTold 47 = .ok (.aload_n 0, 1) := by decide +kernel
theorem dX7_layTold_48 : decode cX7_layTold 48 = .ok (.getfield 76, 3) := by decide +kernel
theorem dX7_layTold_51 : decode cX7_layTold 51 = .ok (.iconst 1, 1) := by decide +kernel
theorem dX7_layTold_52 : decode cX7_layTold 52 = .ok (.iload_n 1, 1) := by decide +kernel
theorem dX7_layTold_53 : decode cX7_layTold 53 = .ok (.iadd, 1) := by decide +kernel
theorem dX7_layTold_54 : decode cX7_layTold 54 = .ok (.aload_n 0, 1) := by decide +kernel
theorem dX7_layTold_55 : decode cX7_layTold 55 = .ok (.getfield 45, 3) := by decide +kernel
theorem dX7_layTold_58 : decode cX7_layTold 58 = .ok (.bipush 6, 2) := by decide +kernel
theorem dX7_layTold_60 : decode cX7_layTold 60 = .ok (.aload_n 0, 1) := by decide +kernel
theorem dX7_layTold_61 : decode cX7_layTold 61 = .ok (.getfield 214, 3) := by decide +kernel
theorem dX7_layTold_64 : decode cX7_layTold 64 = .ok (.imul, 1) := by decide +kernel
theorem dX7_layTold_65 : decode cX7_layTold 65 = .ok (.iload_n 1, 1) := by decide +kernel
theorem dX7_layTold_66 : decode cX7_layTold 66 = .ok (.iadd, 1) := by decide +kernel
theorem dX7_layTold_67 : decode cX7_layTold 67 = .ok (.iaload, 1) := by decide +kernel
theorem dX7_layTold_68 : decode cX7_layTold 68 = .ok (.iastore, 1) := by decide +kernel
theorem dX7_layTold_69 : decode cX7_layTold 69 = .ok (.iinc 1 1, 3) := by decide +kernel
theorem dX7_layTold_72 : decode cX7_layTold 72 = .ok (.goto (-33), 3) := by decide +kernel
theorem dX7_layTold_75 : decode cX7_layTold 75 = .ok (.aload_n 0, 1) := by decide +kernel
theorem dX7_layTold_76 : decode cX7_layTold 76 = .ok (.getfield 76, 3) := by decide +kernel
theorem dX7_layTold_79 : decode cX7_layTold 79 = .ok (.bipush 105, 2) := by decide +kernel
theorem dX7_layTold_81 : decode cX7_layTold 81 = .ok (.iconst (-1), 1) := by decide +kernel
theorem dX7_layTold_82 : decode cX7_layTold 82 = .ok (.iastore, 1) := by decide +kernel
theorem dX7_layTold_83 : decode cX7_layTold 83 = .ok (.aload_n 0, 1) := by decide +kernel
theorem dX7_layTold_84 : decode cX7_layTold 84 = .ok (.getfield 76, 3) := by decide +kernel
theorem dX7_layTold_87 : decode cX7_layTold 87 = .ok (.bipush 109, 2) := by decide +kernel
theorem dX7_layTold_89 : decode cX7_layTold 89 = .ok (.aload_n 0, 1) := by decide +kernel
theorem dX7_layTold_90 : decode cX7_layTold 90 = .ok (.getfield 39, 3) := by decide +kernel
theorem dX7_layTold_93 : decode cX7_layTold 93 = .ok (.aload_n 0, 1) := by decide +kernel
theorem dX7_layTold_94 : decode cX7_layTold 94 = .ok (.getfield 214, 3) := by decide +kernel
theorem dX7_layTold_97 : decode cX7_layTold 97 = .ok (.iaload, 1) := by decide +kernel
theorem dX7_layTold_98 : decode cX7_layTold 98 = .ok (.iastore, 1) := by decide +kernel
theorem dX7_layTold_99 : decode cX7_layTold 99 = .ok (.return_, 1) := by decide +kernel
theorem dX7_keepNow_0 : decode cX7_keepNow 0 = .ok (.iconst 0, 1) := by decide +kernel
theorem dX7_keepNow_1 : decode cX7_keepNow 1 = .ok (.istore_n 1, 1) := by decide +kernel
theorem dX7_keepNow_2 : decode cX7_keepNow 2 = .ok (.iload_n 1, 1) := by decide +kernel
theorem dX7_keepNow_3 : decode cX7_keepNow 3 = .ok (.sipush 520, 3) := by decide +kernel
theorem dX7_keepNow_6 : decode cX7_keepNow 6 = .ok (.if_icmp .ge 21, 3) := by decide +kernel
theorem dX7_keepNow_9 : decode cX7_keepNow 9 = .ok (.aload_n 0, 1) := by decide +kernel
theorem dX7_keepNow_10 : decode cX7_keepNow 10 = .ok (.getfield 79, 3) := by decide +kernel
theorem dX7_keepNow_13 : decode cX7_keepNow 13 = .ok (.iload_n 1, 1) := by decide +kernel
theorem dX7_keepNow_14 : decode cX7_keepNow 14 = .ok (.aload_n 0, 1) := by decide +kernel
theorem dX7_keepNow_15 : decode cX7_keepNow 15 = .ok (.getfield 76, 3) := by decide +kernel
theorem dX7_keepNow_18 : decode cX7_keepNow 18 = .ok (.iload_n 1, 1) := by decide +kernel
theorem dX7_keepNow_19 : decode cX7_keepNow 19 = .ok (.iaload, 1) := by decide +kernel
theorem dX7_keepNow_20 : decode cX7_keepNow 20 = .ok (.iastore, 1) := by decide +kernel
theorem dX7_keepNow_21 : decode cX7_keepNow 21 = .ok (.iinc 1 1, 3) := by decide +kernel
theorem dX7_keepNow_24 : decode cX7_keepNow 24 = .ok (.goto (-22), 3) := by decide +kernel
theorem dX7_keepNow_27 : decode cX7_keepNow 27 = .ok (.return_, 1) := by decide +kernel
theorem dX7_bringBack_0 : decode cX7_bringBack 0 = .ok (.iconst 0, 1) := by decide +kernel
theorem dX7_bringBack_1 : decode cX7_bringBack 1 = .ok (.istore_n 1, 1) := by decide +kernel
theorem dX7_bringBack_2 : decode cX7_bringBack 2 = .ok (.iload_n 1, 1) := by decide +kernel
theorem dX7_bringBack_3 : decode cX7_bringBack 3 = .ok (.sipush 520, 3) := by decide +kernel
theorem dX7_bringBack_6 : decode cX7_bringBack 6 = .ok (.if_icmp .ge 21, 3) := by decide +kernel
theorem dX7_bringBack_9 : decode cX7_bringBack 9 = .ok (.aload_n 0, 1) := by decide +kernel
theorem dX7_bringBack_10 : decode cX7_bringBack 10 = .ok (.getfield 76, 3) := by decide +kernel
theorem dX7_bringBack_13 : decode cX7_bringBack 13 = .ok (.iload_n 1, 1) := by decide +kernel
theorem dX7_bringBack_14 : decode cX7_bringBack 14 = .ok (.aload_n 0, 1) := by decide +kernel
theorem dX7_bringBack_15 : decode cX7_bringBack 15 = .ok (.getfield 79, 3) := by decide +kernel
theorem dX7_bringBack_18 : decode cX7_bringBack 18 = .ok (.iload_n 1, 1) := by decide +kernel
theorem dX7_bringBack_19 : decode cX7_bringBack 19 = .ok (.iaload, 1) := by decide +kernel
theorem dX7_bringBack_20 : decode cX7_bringBack 20 = .ok (.iastore, 1) := by decide +kernel
theorem dX7_bringBack_21 : decode cX7_bringBack 21 = .ok (.iinc 1 1, 3) := by decide +kernel
theorem dX7_bringBack_24 : decode cX7_bringBack 24 = .ok (.goto (-22), 3) := by decide +kernel
theorem dX7_bringBack_27 : decode cX7_bringBack 27 = .ok (.return_, 1) := by decide +kernel
theorem dX7_delayOf_0 : decode cX7_delayOf 0 = .ok (.aload_n 0, 1) := by decide +kernel
theorem dX7_delayOf_1 : decode cX7_delayOf 1 = .ok (.getfield 341, 3) := by decide +kernel
theorem dX7_delayOf_4 : decode cX7_delayOf 4 = .ok (.ifCond .le 8, 3) := by decide +kernel
theorem dX7_delayOf_7 : decode cX7_delayOf 7 = .ok (.aload_n 0, 1) := by decide +kernel
theorem dX7_delayOf_8 : decode cX7_delayOf 8 = .ok (.getfield 341, 3) := by decide +kernel
theorem dX7_delayOf_11 : decode cX7_delayOf 11 = .ok (.ireturn, 1) := by decide +kernel
theorem dX7_delayOf_12 : decode cX7_delayOf 12 = .ok (.aload_n 0, 1) := by decide +kernel
theorem dX7_delayOf_13 : decode cX7_delayOf 13 = .ok (.iload_n 1, 1) := by decide +kernel
theorem dX7_delayOf_14 : decode cX7_delayOf 14 = .ok (.putfield 289, 3) := by decide +kernel
theorem dX7_delayOf_17 : decode cX7_delayOf 17 = .ok (.aload_n 0, 1) := by decide +kernel
theorem dX7_delayOf_18 : decode cX7_delayOf 18 = .ok (.iload_n 2, 1) := by decide +kernel
theorem dX7_delayOf_19 : decode cX7_delayOf 19 = .ok (.putfield 292, 3) := by decide +kernel
theorem dX7_delayOf_22 : decode cX7_delayOf 22 = .ok (.aload_n 0, 1) := by decide +kernel
theorem dX7_delayOf_23 : decode cX7_delayOf 23 = .ok (.iload_n 3, 1) := by decide +kernel
theorem dX7_delayOf_24 : decode cX7_delayOf 24 = .ok (.putfield 295, 3) := by decide +kernel
theorem dX7_delayOf_27 : decode cX7_delayOf 27 = .ok (.aload_n 0, 1) := by decide +kernel
theorem dX7_delayOf_28 : decode cX7_delayOf 28 = .ok (.iload 4, 2) := by decide +kernel
theorem dX7_delayOf_30 : decode cX7_delayOf 30 = .ok (.putfield 298, 3) := by decide +kernel
theorem dX7_delayOf_33 : decode cX7_delayOf 33 = .ok (.aload_n 0, 1) := by decide +kernel
theorem dX7_delayOf_34 : decode cX7_delayOf 34 = .ok (.iload 5, 2) := by decide +kernel
theorem dX7_delayOf_36 : decode cX7_delayOf 36 = .ok (.putfield 301, 3) := by decide +kernel
theorem dX7_delayOf_39 : decode cX7_delayOf 39 = .ok (.aload_n 0, 1) := by decide +kernel
theorem dX7_delayOf_40 : decode cX7_delayOf 40 = .ok (.getfield 42, 3) := by decide +kernel
theorem dX7_delayOf_43 : decode cX7_delayOf 43 = .ok (.aload_n 0, 1) := by decide +kernel
theorem dX7_delayOf_44 : decode cX7_delayOf 44 = .ok (.getfield 214, 3) := by decide +kernel
theorem dX7_delayOf_47 : decode cX7_delayOf 47 = .ok (.iaload, 1) := by decide +kernel
theorem dX7_delayOf_48 : decode cX7_delayOf 48 = .ok (.iconst 0, 1) := by decide +kernel
theorem dX7_delayOf_49 : decode cX7_delayOf 49 = .ok (.invokestatic 223, 3) := by decide +kernel
theorem dX7_delayOf_52 : decode cX7_delayOf 52 = .ok (.ifCond .eq 16, 3) := by decide +kernel
theorem dX7_delayOf_55 : decode cX7_delayOf 55 = .ok (.aload_n 0, 1) := by decide +kernel
theorem dX7_delayOf_56 : decode cX7_delayOf 56 = .ok (.invokevirtual 344, 3) := by decide +kernel
theorem dX7_delayOf_59 : decode cX7_delayOf 59 = .ok (.iconst 1, 1) := by decide +kernel
theorem dX7_delayOf_60 : decode cX7_delayOf 60 = .ok (.bipush 9, 2) := by decide +kernel
theorem dX7_delayOf_62 : decode cX7_delayOf 62 = .ok (.invokestatic 347, 3) := by decide +kernel
theorem dX7_delayOf_65 : decode cX7_delayOf 65 = .ok (.goto 4, 3) := by decide +kernel
theorem dX7_delayOf_68 : decode cX7_delayOf 68 = .ok (.iconst 1, 1) := by decide +kernel
theorem dX7_delayOf_69 : decode cX7_delayOf 69 = .ok (.ireturn, 1) := by decide +kernel
theorem dX7_sendDown_0 : decode cX7_sendDown 0 = .ok (.bipush 110, 2) := by decide +kernel
theorem dX7_sendDown_2 : decode cX7_sendDown 2 = .ok (.bipush 41, 2) := by decide +kernel
theorem dX7_sendDown_4 : decode cX7_sendDown 4 = .ok (.iload_n 1, 1) := by decide +kernel
theorem dX7_sendDown_5 : decode cX7_sendDown 5 = .ok (.imul, 1) := by decide +kernel
theorem dX7_sendDown_6 : decode cX7_sendDown 6 = .ok (.iadd, 1) := by decide +kernel
theorem dX7_sendDown_7 : decode cX7_sendDown 7 = .ok (.istore 4, 2) := by decide +kernel
theorem dX7_sendDown_9 : decode cX7_sendDown 9 = .ok (.aload_n 0, 1) := by decide +kernel
theorem dX7_sendDown_10 : decode cX7_sendDown 10 = .ok (.getfield 76, 3) := by decide +kernel
theorem dX7_sendDown_13 : decode cX7_sendDown 13 = .ok (.bipush 108, 2) := by decide +kernel
theorem dX7_sendDown_15 : decode cX7_sendDown 15 = .ok (.iaload, 1) := by decide +kernel
theorem dX7_sendDown_16 : decode cX7_sendDown 16 = .ok (.aload_n 0, 1) := by decide +kernel
theorem dX7_sendDown_17 : decode cX7_sendDown 17 = .ok (.aload_n 0, 1) := by decide +kernel
theorem dX7_sendDown_18 : decode cX7_sendDown 18 = .ok (.iload_n 1, 1) := by decide +kernel
theorem dX7_sendDown_19 : decode cX7_sendDown 19 = .ok (.invokevirtual 310, 3) := by decide +kernel
theorem dX7_sendDown_22 : decode cX7_sendDown 22 = .ok (.aload_n 0, 1) := by decide +kernel
theorem dX7_sendDown_23 : decode cX7_sendDown 23 = .ok (.iload_n 1, 1) := by decide +kernel
theorem dX7_sendDown_24 : decode cX7_sendDown 24 = .ok (.iconst 1, 1) := by decide +kernel
theorem dX7_sendDown_25 : decode cX7_sendDown 25 = .ok (.iadd, 1) := by decide +kernel
theorem dX7_sendDown_26 : decode cX7_sendDown 26 = .ok (.invokevirtual 310, 3) := by decide +kernel
theorem dX7_sendDown_29 : decode cX7_sendDown 29 = .ok (.iload_n 2, 1) := by decide +kernel
theorem dX7_sendDown_30 : decode cX7_sendDown 30 = .ok (.iload_n 3, 1) := by decide +kernel
theorem dX7_sendDown_31 : decode cX7_sendDown 31 = .ok (.iconst 0, 1) := by decide +kernel
theorem dX7_sendDown_32 : decode cX7_sendDown 32 = .ok (.invokevirtual 350, 3) := by decide +kernel
theorem dX7_sendDown_35 : decode cX7_sendDown 35 = .ok (.iadd, 1) := by decide +kernel
theorem dX7_sendDown_36 : decode cX7_sendDown 36 = .ok (.istore 5, 2) := by decide +kernel
theorem dX7_sendDown_38 : decode cX7_sendDown 38 = .ok (.aload_n 0, 1) := by decide +kernel
theorem dX7_sendDown_39 : decode cX7_sendDown 39 = .ok (.getfield 76, 3) := by decide +kernel
theorem dX7_sendDown_42 : decode cX7_sendDown 42 = .ok (.iload 4, 2) := by decide +kernel
theorem dX7_sendDown_44 : decode cX7_sendDown 44 = .ok (.iload_n 2, 1) := by decide +kernel
theorem dX7_sendDown_45 : decode cX7_sendDown 45 = .ok (.iadd, 1) := by decide +kernel
theorem dX7_sendDown_46 : decode cX7_sendDown 46 = .ok (.iload_n 3, 1) := by decide +kernel
theorem dX7_sendDown_47 : decode cX7_sendDown 47 = .ok (.ifCond .le 33, 3) := by decide +kernel
theorem dX7_sendDown_50 : decode cX7_sendDown 50 = .ok (.aload_n 0, 1) := by decide +kernel
theorem dX7_sendDown_51 : decode cX7_sendDown 51 = .ok (.getfield 76, 3) := by decide +kernel
theorem dX7_sendDown_54 : decode cX7_sendDown 54 = .ok (.iload 4, 2) := by decide +kernel
theorem dX7_sendDown_56 : decode cX7_sendDown 56 = .ok (.iload_n 2, 1) := by decide +kernel
theorem dX7_sendDown_57 : decode cX7_sendDown 57 = .ok (.iadd, 1) := by decide +kernel
theorem dX7_sendDown_58 : decode cX7_sendDown 58 = .ok (.iconst 1, 1) := by decide +kernel
theorem dX7_sendDown_59 : decode cX7_sendDown 59 = .ok (.isub, 1) := by decide +kernel
theorem dX7_sendDown_60 : decode cX7_sendDown 60 = .ok (.iaload, 1) := by decide +kernel
theorem dX7_sendDown_61 : decode cX7_sendDown 61 = .ok (.iload 5, 2) := by decide +kernel
theorem dX7_sendDown_63 : decode cX7_sendDown 63 = .ok (.if_icmp .le 17, 3) := by decide +kernel
theorem dX7_sendDown_66 : decode cX7_sendDown 66 = .ok (.aload_n 0, 1) := by decide +kernel
theorem dX7_sendDown_67 : decode cX7_sendDown 67 = .ok (.getfield 76, 3) := by decide +kernel
theorem dX7_sendDown_70 : decode cX7_sendDown 70 = .ok (.iload 4, 2) := by decide +kernel
theorem dX7_sendDown_72 : decode cX7_sendDown 72 = .ok (.iload_n 2, 1) := by decide +kernel
theorem dX7_sendDown_73 : decode cX7_sendDown 73 = .ok (.iadd, 1) := by decide +kernel
theorem dX7_sendDown_74 : decode cX7_sendDown 74 = .ok (.iconst 1, 1) := by decide +kernel
theorem dX7_sendDown_75 : decode cX7_sendDown 75 = .ok (.isub, 1) := by decide +kernel
theorem dX7_sendDown_76 : decode cX7_sendDown 76 = .ok (.iaload, 1) := by decide +kernel
theorem dX7_sendDown_77 : decode cX7_sendDown 77 = .ok (.goto 5, 3) := by decide +kernel
theorem dX7_sendDown_80 : decode cX7_sendDown 80 = .ok (.iload 5, 2) := by decide +kernel
theorem dX7_sendDown_82 : decode cX7_sendDown 82 = .ok (.iastore, 1) := by decide +kernel
theorem dX7_sendDown_83 : decode cX7_sendDown 83 = .ok (.return_, 1) := by decide +kernel
theorem dX7_sendUp_0 : decode cX7_sendUp 0 = .ok (.sipush 315, 3) := by decide +kernel
theorem dX7_sendUp_3 : decode cX7_sendUp 3 = .ok (.bipush 41, 2) := by decide +kernel
theorem dX7_sendUp_5 : decode cX7_sendUp 5 = .ok (.iload_n 1, 1) := by decide +kernel
theorem dX7_sendUp_6 : decode cX7_sendUp 6 = .ok (.imul, 1) := by decide +kernel
theorem dX7_sendUp_7 : decode cX7_sendUp 7 = .ok (.iadd, 1) := by decide +kernel
theorem dX7_sendUp_8 : decode cX7_sendUp 8 = .ok (.istore 4, 2) := by decide +kernel
theorem dX7_sendUp_10 : decode cX7_sendUp 10 = .ok (.aload_n 0, 1) := by decide +kernel
theorem dX7_sendUp_11 : decode cX7_sendUp 11 = .ok (.getfield 76, 3) := by decide +kernel
theorem dX7_sendUp_14 : decode cX7_sendUp 14 = .ok (.bipush 108, 2) := by decide +kernel
theorem dX7_sendUp_16 : decode cX7_sendUp 16 = .ok (.iaload, 1) := by decide +kernel
theorem dX7_sendUp_17 : decode cX7_sendUp 17 = .ok (.aload_n 0, 1) := by decide +kernel
theorem dX7_sendUp_18 : decode cX7_sendUp 18 = .ok (.aload_n 0, 1) := by decide +kernel
theorem dX7_sendUp_19 : decode cX7_sendUp 19 = .ok (.iload_n 1, 1) := by decide +kernel
theorem dX7_sendUp_20 : decode cX7_sendUp 20 = .ok (.iconst 1, 1) := by decide +kernel
theorem dX7_sendUp_21 : decode cX7_sendUp 21 = .ok (.iadd, 1) := by decide +kernel
theorem dX7_sendUp_22 : decode cX7_sendUp 22 = .ok (.invokevirtual 310, 3) := by decide +kernel
theorem dX7_sendUp_25 : decode cX7_sendUp 25 = .ok (.aload_n 0, 1) := by decide +kernel
theorem dX7_sendUp_26 : decode cX7_sendUp 26 = .ok (.iload_n 1, 1) := by decide +kernel
theorem dX7_sendUp_27 : decode cX7_sendUp 27 = .ok (.invokevirtual 310, 3) := by decide +kernel
theorem dX7_sendUp_30 : decode cX7_sendUp 30 = .ok (.iload_n 2, 1) := by decide +kernel
theorem dX7_sendUp_31 : decode cX7_sendUp 31 = .ok (.iload_n 3, 1) := by decide +kernel
theorem dX7_sendUp_32 : decode cX7_sendUp 32 = .ok (.iconst 1, 1) := by decide +kernel
theorem dX7_sendUp_33 : decode cX7_sendUp 33 = .ok (.invokevirtual 350, 3) := by decide +kernel
theorem dX7_sendUp_36 : decode cX7_sendUp 36 = .ok (.iadd, 1) := by decide +kernel
theorem dX7_sendUp_37 : decode cX7_sendUp 37 = .ok (.istore 5, 2) := by decide +kernel
theorem dX7_sendUp_39 : decode cX7_sendUp 39 = .ok (.aload_n 0, 1) := by decide +kernel
theorem dX7_sendUp_40 : decode cX7_sendUp 40 = .ok (.getfield 76, 3) := by decide +kernel
theorem dX7_sendUp_43 : decode cX7_sendUp 43 = .ok (.iload 4, 2) := by decide +kernel
theorem dX7_sendUp_45 : decode cX7_sendUp 45 = .ok (.iload_n 2, 1) := by decide +kernel
theorem dX7_sendUp_46 : decode cX7_sendUp 46 = .ok (.iadd, 1) := by decide +kernel
theorem dX7_sendUp_47 : decode cX7_sendUp 47 = .ok (.iload_n 3, 1) := by decide +kernel
theorem dX7_sendUp_48 : decode cX7_sendUp 48 = .ok (.ifCond .le 33, 3) := by decide +kernel
theorem dX7_sendUp_51 : decode cX7_sendUp 51 = .ok (.aload_n 0, 1) := by decide +kernel
theorem dX7_sendUp_52 : decode cX7_sendUp 52 = .ok (.getfield 76, 3) := by decide +kernel
theorem dX7_sendUp_55 : decode cX7_sendUp 55 = .ok (.iload 4, 2) := by decide +kernel
theorem dX7_sendUp_57 : decode cX7_sendUp 57 = .ok (.iload_n 2, 1) := by decide +kernel
theorem dX7_sendUp_58 : decode cX7_sendUp 58 = .ok (.iadd, 1) := by decide +kernel
theorem dX7_sendUp_59 : decode cX7_sendUp 59 = .ok (.iconst 1, 1) := by decide +kernel
theorem dX7_sendUp_60 : decode cX7_sendUp 60 = .ok (.isub, 1) := by decide +kernel
theorem dX7_sendUp_61 : decode cX7_sendUp 61 = .ok (.iaload, 1) := by decide +kernel
theorem dX7_sendUp_62 : decode cX7_sendUp 62 = .ok (.iload 5, 2) := by decide +kernel
theorem dX7_sendUp_64 : decode cX7_sendUp 64 = .ok (.if_icmp .le 17, 3) := by decide +kernel
theorem dX7_sendUp_67 : decode cX7_sendUp 67 = .ok (.aload_n 0, 1) := by decide +kernel
theorem dX7_sendUp_68 : decode cX7_sendUp 68 = .ok (.getfield 76, 3) := by decide +kernel
theorem dX7_sendUp_71 : decode cX7_sendUp 71 = .ok (.iload 4, 2) := by decide +kernel
theorem dX7_sendUp_73 : decode cX7_sendUp 73 = .ok (.iload_n 2, 1) := by decide +kernel
theorem dX7_sendUp_74 : decode cX7_sendUp 74 = .ok (.iadd, 1) := by decide +kernel
theorem dX7_sendUp_75 : decode cX7_sendUp 75 = .ok (.iconst 1, 1) := by decide +kernel
theorem dX7_sendUp_76 : decode cX7_sendUp 76 = .ok (.isub, 1) := by decide +kernel
theorem dX7_sendUp_77 : decode cX7_sendUp 77 = .ok (.iaload, 1) := by decide +kernel
theorem dX7_sendUp_78 : decode cX7_sendUp 78 = .ok (.goto 5, 3) := by decide +kernel
theorem dX7_sendUp_81 : decode cX7_sendUp 81 = .ok (.iload 5, 2) := by decide +kernel
theorem dX7_sendUp_83 : decode cX7_sendUp 83 = .ok (.iastore, 1) := by decide +kernel
theorem dX7_sendUp_84 : decode cX7_sendUp 84 = .ok (.return_, 1) := by decide +kernel
theorem dX7_getWrite_0 : decode cX7_getWrite 0 = .ok (.aload_n 0, 1) := by decide +kernel
theorem dX7_getWrite_1 : decode cX7_getWrite 1 = .ok (.iload_n 1, 1) := by decide +kernel
theorem dX7_getWrite_2 : decode cX7_getWrite 2 = .ok (.invokevirtual 354, 3) := by decide +kernel
theorem dX7_getWrite_5 : decode cX7_getWrite 5 = .ok (.iconst 1, 1) := by decide +kernel
theorem dX7_getWrite_6 : decode cX7_getWrite 6 = .ok (.iadd, 1) := by decide +kernel
theorem dX7_getWrite_7 : decode cX7_getWrite 7 = .ok (.istore_n 2, 1) := by decide +kernel
theorem dX7_getWrite_8 : decode cX7_getWrite 8 = .ok (.aload_n 0, 1) := by decide +kernel
theorem dX7_getWrite_9 : decode cX7_getWrite 9 = .ok (.getfield 76, 3) := by decide +kernel
theorem dX7_getWrite_12 : decode cX7_getWrite 12 = .ok (.bipush 7, 2) := by decide +kernel
theorem dX7_getWrite_14 : decode cX7_getWrite 14 = .ok (.aload_n 0, 1) := by decide +kernel
theorem dX7_getWrite_15 : decode cX7_getWrite 15 = .ok (.iload_n 1, 1) := by decide +kernel
theorem dX7_getWrite_16 : decode cX7_getWrite 16 = .ok (.invokevirtual 310, 3) := by decide +kernel
theorem dX7_getWrite_19 : decode cX7_getWrite 19 = .ok (.iadd, 1) := by decide +kernel
theorem dX7_getWrite_20 : decode cX7_getWrite 20 = .ok (.iload_n 2, 1) := by decide +kernel
theorem dX7_getWrite_21 : decode cX7_getWrite 21 = .ok (.iastore, 1) := by decide +kernel
theorem dX7_getWrite_22 : decode cX7_getWrite 22 = .ok (.iload_n 1, 1) := by decide +kernel
theorem dX7_getWrite_23 : decode cX7_getWrite 23 = .ok (.iconst 1, 1) := by decide +kernel
theorem dX7_getWrite_24 : decode cX7_getWrite 24 = .ok (.iadd, 1) := by decide +kernel
theorem dX7_getWrite_25 : decode cX7_getWrite 25 = .ok (.aload_n 0, 1) := by decide +kernel
theorem dX7_getWrite_26 : decode cX7_getWrite 26 = .ok (.invokevirtual 313, 3) := by decide +kernel
theorem dX7_getWrite_29 : decode cX7_getWrite 29 = .ok (.if_icmp .ge 23, 3) := by decide +kernel
theorem dX7_getWrite_32 : decode cX7_getWrite 32 = .ok (.aload_n 0, 1) := by decide +kernel
theorem dX7_getWrite_33 : decode cX7_getWrite 33 = .ok (.iload_n 1, 1) := by decide +kernel
theorem dX7_getWrite_34 : decode cX7_getWrite 34 = .ok (.iload_n 2, 1) := by decide +kernel
theorem dX7_getWrite_35 : decode cX7_getWrite 35 = .ok (.iload_n 2, 1) := by decide +kernel
theorem dX7_getWrite_36 : decode cX7_getWrite 36 = .ok (.iconst 1, 1) := by decide +kernel
theorem dX7_getWrite_37 : decode cX7_getWrite 37 = .ok (.isub, 1) := by decide +kernel
theorem dX7_getWrite_38 : decode cX7_getWrite 38 = .ok (.aload_n 0, 1) := by decide +kernel
theorem dX7_getWrite_39 : decode cX7_getWrite 39 = .ok (.iload_n 1, 1) := by decide +kernel
theorem dX7_getWrite_40 : decode cX7_getWrite 40 = .ok (.iconst 1, 1) := by decide +kernel
theorem dX7_getWrite_41 : decode cX7_getWrite 41 = .ok (.iadd, 1) := by decide +kernel
theorem dX7_getWrite_42 : decode cX7_getWrite 42 = .ok (.invokevirtual 354, 3) := by decide +kernel
theorem dX7_getWrite_45 : decode cX7_getWrite 45 = .ok (.isub, 1) := by decide +kernel
theorem dX7_getWrite_46 : decode cX7_getWrite 46 = .ok (.invokevirtual 357, 3) := by decide +kernel
theorem dX7_getWrite_49 : decode cX7_getWrite 49 = .ok (.goto 8, 3) := by decide +kernel
theorem dX7_getWrite_52 : decode cX7_getWrite 52 = .ok (.aload_n 0, 1) := by decide +kernel
theorem dX7_getWrite_53 : decode cX7_getWrite 53 = .ok (.iload_n 1, 1) := by decide +kernel
theorem dX7_getWrite_54 : decode cX7_getWrite 54 = .ok (.invokevirtual 361, 3) := by decide +kernel
theorem dX7_getWrite_57 : decode cX7_getWrite 57 = .ok (.return_, 1) := by decide +kernel
theorem dX7_getClean_0 : decode cX7_getClean 0 = .ok (.aload_n 0, 1) := by decide +kernel
theorem dX7_getClean_1 : decode cX7_getClean 1 = .ok (.iload_n 1, 1) := by decide +kernel
theorem dX7_getClean_2 : decode cX7_getClean 2 = .ok (.invokevirtual 365, 3) := by decide +kernel
theorem dX7_getClean_5 : decode cX7_getClean 5 = .ok (.iconst 1, 1) := by decide +kernel
theorem dX7_getClean_6 : decode cX7_getClean 6 = .ok (.iadd, 1) := by decide +kernel
theorem dX7_getClean_7 : decode cX7_getClean 7 = .ok (.istore_n 2, 1) := by decide +kernel
theorem dX7_getClean_8 : decode cX7_getClean 8 = .ok (.aload_n 0, 1) := by decide +kernel
theorem dX7_getClean_9 : decode cX7_getClean 9 = .ok (.getfield 76, 3) := by decide +kernel
theorem dX7_getClean_12 : decode cX7_getClean 12 = .ok (.bipush 15, 2) := by decide +kernel
theorem dX7_getClean_14 : decode cX7_getClean 14 = .ok (.aload_n 0, 1) := by decide +kernel
theorem dX7_getClean_15 : decode cX7_getClean 15 = .ok (.iload_n 1, 1) := by decide +kernel
theorem dX7_getClean_16 : decode cX7_getClean 16 = .ok (.invokevirtual 310, 3) := by decide +kernel
theorem dX7_getClean_19 : decode cX7_getClean 19 = .ok (.iadd, 1) := by decide +kernel
theorem dX7_getClean_20 : decode cX7_getClean 20 = .ok (.iload_n 2, 1) := by decide +kernel
theorem dX7_getClean_21 : decode cX7_getClean 21 = .ok (.iastore, 1) := by decide +kernel
theorem dX7_getClean_22 : decode cX7_getClean 22 = .ok (.iload_n 1, 1) := by decide +kernel
theorem dX7_getClean_23 : decode cX7_getClean 23 = .ok (.ifCond .le 22, 3) := by decide +kernel
theorem dX7_getClean_26 : decode cX7_getClean 26 = .ok (.aload_n 0, 1) := by decide +kernel
theorem dX7_getClean_27 : decode cX7_getClean 27 = .ok (.iload_n 1, 1) := by decide +kernel
theorem dX7_getClean_28 : decode cX7_getClean 28 = .ok (.iconst 1, 1) := by decide +kernel
theorem dX7_getClean_29 : decode cX7_getClean 29 = .ok (.isub, 1) := by decide +kernel
theorem dX7_getClean_30 : decode cX7_getClean 30 = .ok (.iload_n 2, 1) := by decide +kernel
theorem dX7_getClean_31 : decode cX7_getClean 31 = .ok (.iload_n 2, 1) := by decide +kernel
theorem dX7_getClean_32 : decode cX7_getClean 32 = .ok (.iconst 1, 1) := by decide +kernel
theorem dX7_getClean_33 : decode cX7_getClean 33 = .ok (.isub, 1) := by decide +kernel
theorem dX7_getClean_34 : decode cX7_getClean 34 = .ok (.aload_n 0, 1) := by decide +kernel
theorem dX7_getClean_35 : decode cX7_getClean 35 = .ok (.iload_n 1, 1) := by decide +kernel
theorem dX7_getClean_36 : decode cX7_getClean 36 = .ok (.iconst 1, 1) := by decide +kernel
theorem dX7_getClean_37 : decode cX7_getClean 37 = .ok (.isub, 1) := by decide +kernel
theorem dX7_getClean_38 : decode cX7_getClean 38 = .ok (.invokevirtual 365, 3) := by decide +kernel
theorem dX7_getClean_41 : decode cX7_getClean 41 = .ok (.isub, 1) := by decide +kernel
theorem dX7_getClean_42 : decode cX7_getClean 42 = .ok (.invokevirtual 368, 3) := by decide +kernel
theorem dX7_getClean_45 : decode cX7_getClean 45 = .ok (.return_, 1) := by decide +kernel
theorem dX7_isDownDue_0 : decode cX7_isDownDue 0 = .ok (.aload_n 0, 1) := by decide +kernel
theorem dX7_isDownDue_1 : decode cX7_isDownDue 1 = .ok (.iload_n 1, 1) := by decide +kernel
theorem dX7_isDownDue_2 : decode cX7_isDownDue 2 = .ok (.iconst 1, 1) := by decide +kernel
theorem dX7_isDownDue_3 : decode cX7_isDownDue 3 = .ok (.iadd, 1) := by decide +kernel
theorem dX7_isDownDue_4 : decode cX7_isDownDue 4 = .ok (.invokevirtual 354, 3) := by decide +kernel
theorem dX7_isDownDue_7 : decode cX7_isDownDue 7 = .ok (.aload_n 0, 1) := by decide +kernel
theorem dX7_isDownDue_8 : decode cX7_isDownDue 8 = .ok (.iload_n 1, 1) := by decide +kernel
theorem dX7_isDownDue_9 : decode cX7_isDownDue 9 = .ok (.invokevirtual 354, 3) := by decide +kernel
theorem dX7_isDownDue_12 : decode cX7_isDownDue 12 = .ok (.if_icmp .ge 39, 3) := by decide +kernel
theorem dX7_isDownDue_15 : decode cX7_isDownDue 15 = .ok (.aload_n 0, 1) := by decide +kernel
theorem dX7_isDownDue_16 : decode cX7_isDownDue 16 = .ok (.getfield 76, 3) := by decide +kernel
theorem dX7_isDownDue_19 : decode cX7_isDownDue 19 = .ok (.bipush 110, 2) := by decide +kernel
theorem dX7_isDownDue_21 : decode cX7_isDownDue 21 = .ok (.bipush 41, 2) := by decide +kernel
theorem dX7_isDownDue_23 : decode cX7_isDownDue 23 = .ok (.iload_n 1, 1) := by decide +kernel
theorem dX7_isDownDue_24 : decode cX7_isDownDue 24 = .ok (.imul, 1) := by decide +kernel
theorem dX7_isDownDue_25 : decode cX7_isDownDue 25 = .ok (.iadd, 1) := by decide +kernel
theorem dX7_isDownDue_26 : decode cX7_isDownDue 26 = .ok (.aload_n 0, 1) := by decide +kernel
theorem dX7_isDownDue_27 : decode cX7_isDownDue 27 = .ok (.iload_n 1, 1) := by decide +kernel
theorem dX7_isDownDue_28 : decode cX7_isDownDue 28 = .ok (.iconst 1, 1) := by decide +kernel
theorem dX7_isDownDue_29 : decode cX7_isDownDue 29 = .ok (.iadd, 1) := by decide +kernel
theorem dX7_isDownDue_30 : decode cX7_isDownDue 30 = .ok (.invokevirtual 354, 3) := by decide +kernel
theorem dX7_isDownDue_33 : decode cX7_isDownDue 33 = .ok (.iadd, 1) := by decide +kernel
theorem dX7_isDownDue_34 : decode cX7_isDownDue 34 = .ok (.iconst 1, 1) := by decide +kernel
theorem dX7_isDownDue_35 : decode cX7_isDownDue 35 = .ok (.iadd, 1) := by decide +kernel
theorem dX7_isDownDue_36 : decode cX7_isDownDue 36 = .ok (.iaload, 1) := by decide +kernel
theorem dX7_isDownDue_37 : decode cX7_isDownDue 37 = .ok (.aload_n 0, 1) := by decide +kernel
theorem dX7_isDownDue_38 : decode cX7_isDownDue 38 = .ok (.getfield 76, 3) := by decide +kernel
theorem dX7_isDownDue_41 : decode cX7_isDownDue 41 = .ok (.bipush 108, 2) := by decide +kernel
theorem dX7_isDownDue_43 : decode cX7_isDownDue 43 = .ok (.iaload, 1) := by decide +kernel
theorem dX7_isDownDue_44 : decode cX7_isDownDue 44 = .ok (.if_icmp .gt 7, 3) := by decide +kernel
theorem dX7_isDownDue_47 : decode cX7_isDownDue 47 = .ok (.iconst 1, 1) := by decide +kernel
theorem dX7_isDownDue_48 : decode cX7_isDownDue 48 = .ok (.goto 4, 3) := by decide +kernel
theorem dX7_isDownDue_51 : decode cX7_isDownDue 51 = .ok (.iconst 0, 1) := by decide +kernel
theorem dX7_isDownDue_52 : decode cX7_isDownDue 52 = .ok (.ireturn, 1) := by decide +kernel
theorem dX7_isUpDue_0 : decode cX7_isUpDue 0 = .ok (.aload_n 0, 1) := by decide +kernel
theorem dX7_isUpDue_1 : decode cX7_isUpDue 1 = .ok (.iload_n 1, 1) := by decide +kernel
theorem dX7_isUpDue_2 : decode cX7_isUpDue 2 = .ok (.invokevirtual 365, 3) := by decide +kernel
theorem dX7_isUpDue_5 : decode cX7_isUpDue 5 = .ok (.aload_n 0, 1) := by decide +kernel
theorem dX7_isUpDue_6 : decode cX7_isUpDue 6 = .ok (.iload_n 1, 1) := by decide +kernel
theorem dX7_isUpDue_7 : decode cX7_isUpDue 7 = .ok (.iconst 1, 1) := by decide +kernel
theorem dX7_isUpDue_8 : decode cX7_isUpDue 8 = .ok (.iadd, 1) := by decide +kernel
theorem dX7_isUpDue_9 : decode cX7_isUpDue 9 = .ok (.invokevirtual 365, 3) := by decide +kernel
theorem dX7_isUpDue_12 : decode cX7_isUpDue 12 = .ok (.if_icmp .ge 38, 3) := by decide +kernel
theorem dX7_isUpDue_15 : decode cX7_isUpDue 15 = .ok (.aload_n 0, 1) := by decide +kernel
theorem dX7_isUpDue_16 : decode cX7_isUpDue 16 = .ok (.getfield 76, 3) := by decide +kernel
theorem dX7_isUpDue_19 : decode cX7_isUpDue 19 = .ok (.sipush 315, 3) := by decide +kernel
theorem dX7_isUpDue_22 : decode cX7_isUpDue 22 = .ok (.bipush 41, 2) := by decide +kernel
theorem dX7_isUpDue_24 : decode cX7_isUpDue 24 = .ok (.iload_n 1, 1) := by decide +kernel
theorem dX7_isUpDue_25 : decode cX7_isUpDue 25 = .ok (.imul, 1) := by decide +kernel
theorem dX7_isUpDue_26 : decode cX7_isUpDue 26 = .ok (.iadd, 1) := by decide +kernel
theorem dX7_isUpDue_27 : decode cX7_isUpDue 27 = .ok (.aload_n 0, 1) := by decide +kernel
theorem dX7_isUpDue_28 : decode cX7_isUpDue 28 = .ok (.iload_n 1, 1) := by decide +kernel
theorem dX7_isUpDue_29 : decode cX7_isUpDue 29 = .ok (.invokevirtual 365, 3) := by decide +kernel
theorem dX7_isUpDue_32 : decode cX7_isUpDue 32 = .ok (.iadd, 1) := by decide +kernel
theorem dX7_isUpDue_33 : decode cX7_isUpDue 33 = .ok (.iconst 1, 1) := by decide +kernel
theorem dX7_isUpDue_34 : decode cX7_isUpDue 34 = .ok (.iadd, 1) := by decide +kernel
theorem dX7_isUpDue_35 : decode cX7_isUpDue 35 = .ok (.iaload, 1) := by decide +kernel
theorem dX7_isUpDue_36 : decode cX7_isUpDue 36 = .ok (.aload_n 0, 1) := by decide +kernel
theorem dX7_isUpDue_37 : decode cX7_isUpDue 37 = .ok (.getfield 76, 3) := by decide +kernel
theorem dX7_isUpDue_40 : decode cX7_isUpDue 40 = .ok (.bipush 108, 2) := by decide +kernel
theorem dX7_isUpDue_42 : decode cX7_isUpDue 42 = .ok (.iaload, 1) := by decide +kernel
theorem dX7_isUpDue_43 : decode cX7_isUpDue 43 = .ok (.if_icmp .gt 7, 3) := by decide +kernel
theorem dX7_isUpDue_46 : decode cX7_isUpDue 46 = .ok (.iconst 1, 1) := by decide +kernel
theorem dX7_isUpDue_47 : decode cX7_isUpDue 47 = .ok (.goto 4, 3) := by decide +kernel
theorem dX7_isUpDue_50 : decode cX7_isUpDue 50 = .ok (.iconst 0, 1) := by decide +kernel
theorem dX7_isUpDue_51 : decode cX7_isUpDue 51 = .ok (.ireturn, 1) := by decide +kernel
theorem dX7_goTick_0 : decode cX7_goTick 0 = .ok (.iconst 0, 1) := by decide +kernel
theorem dX7_goTick_1 : decode cX7_goTick 1 = .ok (.istore_n 1, 1) := by decide +kernel
theorem dX7_goTick_2 : decode cX7_goTick 2 = .ok (.aload_n 0, 1) := by decide +kernel
theorem dX7_goTick_3 : decode cX7_goTick 3 = .ok (.getfield 76, 3) := by decide +kernel
theorem dX7_goTick_6 : decode cX7_goTick 6 = .ok (.bipush 108, 2) := by decide +kernel
theorem dX7_goTick_8 : decode cX7_goTick 8 = .ok (.dup2, 1) := by decide +kernel
theorem dX7_goTick_9 : decode cX7_goTick 9 = .ok (.iaload, 1) := by decide +kernel
theorem dX7_goTick_10 : decode cX7_goTick 10 = .ok (.iconst 1, 1) := by decide +kernel
theorem dX7_goTick_11 : decode cX7_goTick 11 = .ok (.iadd, 1) := by decide +kernel
theorem dX7_goTick_12 : decode cX7_goTick 12 = .ok (.iastore, 1) := by decide +kernel
theorem dX7_goTick_13 : decode cX7_goTick 13 = .ok (.iconst 0, 1) := by decide +kernel
theorem dX7_goTick_14 : decode cX7_goTick 14 = .ok (.istore_n 2, 1) := by decide +kernel
theorem dX7_goTick_15 : decode cX7_goTick 15 = .ok (.iload_n 2, 1) := by decide +kernel
theorem dX7_goTick_16 : decode cX7_goTick 16 = .ok (.iconst 1, 1) := by decide +kernel
theorem dX7_goTick_17 : decode cX7_goTick 17 = .ok (.iadd, 1) := by decide +kernel
theorem dX7_goTick_18 : decode cX7_goTick 18 = .ok (.aload_n 0, 1) := by decide +kernel
theorem dX7_goTick_19 : decode cX7_goTick 19 = .ok (.invokevirtual 313, 3) := by decide +kernel
theorem dX7_goTick_22 : decode cX7_goTick 22 = .ok (.if_icmp .ge 30, 3) := by decide +kernel
theorem dX7_goTick_25 : decode cX7_goTick 25 = .ok (.aload_n 0, 1) := by decide +kernel
theorem dX7_goTick_26 : decode cX7_goTick 26 = .ok (.iload_n 2, 1) := by decide +kernel
theorem dX7_goTick_27 : decode cX7_goTick 27 = .ok (.invokevirtual 371, 3) := by decide +kernel
theorem dX7_goTick_30 : decode cX7_goTick 30 = .ok (.ifCond .eq 16, 3) := by decide +kernel
theorem dX7_goTick_33 : decode cX7_goTick 33 = .ok (.aload_n 0, 1) := by decide +kernel
theorem dX7_goTick_34 : decode cX7_goTick 34 = .ok (.iload_n 2, 1) := by decide +kernel
theorem dX7_goTick_35 : decode cX7_goTick 35 = .ok (.iconst 1, 1) := by decide +kernel
theorem dX7_goTick_36 : decode cX7_goTick 36 = .ok (.iadd, 1) := by decide +kernel
theorem dX7_goTick_37 : decode cX7_goTick 37 = .ok (.invokevirtual 374, 3) := by decide +kernel
theorem dX7_goTick_40 : decode cX7_goTick 40 = .ok (.iinc 1 1, 3) := by decide +kernel
theorem dX7_goTick_43 : decode cX7_goTick 43 = .ok (.goto (-18), 3) := by decide +kernel
theorem dX7_goTick_46 : decode cX7_goTick 46 = .ok (.iinc 2 1, 3) := by decide +kernel
theorem dX7_goTick_49 : decode cX7_goTick 49 = .ok (.goto (-34), 3) := by decide +kernel
theorem dX7_goTick_52 : decode cX7_goTick 52 = .ok (.aload_n 0, 1) := by decide +kernel
theorem dX7_goTick_53 : decode cX7_goTick 53 = .ok (.invokevirtual 313, 3) := by decide +kernel
theorem dX7_goTick_56 : decode cX7_goTick 56 = .ok (.iconst 2, 1) := by decide +kernel
theorem dX7_goTick_57 : decode cX7_goTick 57 = .ok (.isub, 1) := by decide +kernel
theorem dX7_goTick_58 : decode cX7_goTick 58 = .ok (.istore_n 2, 1) := by decide +kernel
theorem dX7_goTick_59 : decode cX7_goTick 59 = .ok (.iload_n 2, 1) := by decide +kernel
theorem dX7_goTick_60 : decode cX7_goTick 60 = .ok (.ifCond .lt 28, 3) := by decide +kernel
theorem dX7_goTick_63 : decode cX7_goTick 63 = .ok (.aload_n 0, 1) := by decide +kernel
theorem dX7_goTick_64 : decode cX7_goTick 64 = .ok (.iload_n 2, 1) := by decide +kernel
theorem dX7_goTick_65 : decode cX7_goTick 65 = .ok (.invokevirtual 377, 3) := by decide +kernel
theorem dX7_goTick_68 : decode cX7_goTick 68 = .ok (.ifCond .eq 14, 3) := by decide +kernel
theorem dX7_goTick_71 : decode cX7_goTick 71 = .ok (.aload_n 0, 1) := by decide +kernel
theorem dX7_goTick_72 : decode cX7_goTick 72 = .ok (.iload_n 2, 1) := by decide +kernel
theorem dX7_goTick_73 : decode cX7_goTick 73 = .ok (.invokevirtual 361, 3) := by decide +kernel
theorem dX7_goTick_76 : decode cX7_goTick 76 = .ok (.iinc 1 1, 3) := by decide +kernel
theorem dX7_goTick_79 : decode cX7_goTick 79 = .ok (.goto (-16), 3) := by decide +kernel
theorem dX7_goTick_82 : decode cX7_goTick 82 = .ok (.iinc 2 (-1), 3) := by decide +kernel
theorem dX7_goTick_85 : decode cX7_goTick 85 = .ok (.goto (-26), 3) := by decide +kernel
theorem dX7_goTick_88 : decode cX7_goTick 88 = .ok (.aload_n 0, 1) := by decide +kernel
theorem dX7_goTick_89 : decode cX7_goTick 89 = .ok (.getfield 76, 3) := by decide +kernel
theorem dX7_goTick_92 : decode cX7_goTick 92 = .ok (.bipush 105, 2) := by decide +kernel
theorem dX7_goTick_94 : decode cX7_goTick 94 = .ok (.iaload, 1) := by decide +kernel
theorem dX7_goTick_95 : decode cX7_goTick 95 = .ok (.ifCond .lt 7, 3) := by decide +kernel
theorem dX7_goTick_98 : decode cX7_goTick 98 = .ok (.aload_n 0, 1) := by decide +kernel
theorem dX7_goTick_99 : decode cX7_goTick 99 = .ok (.invokevirtual 380, 3) := by decide +kernel
theorem dX7_goTick_102 : decode cX7_goTick 102 = .ok (.iload_n 1, 1) := by decide +kernel
theorem dX7_goTick_103 : decode cX7_goTick 103 = .ok (.ireturn, 1) := by decide +kernel
theorem dX7_goCopy_0 : decode cX7_goCopy 0 = .ok (.aload_n 0, 1) := by decide +kernel
theorem dX7_goCopy_1 : decode cX7_goCopy 1 = .ok (.getfield 76, 3) := by decide +kernel
theorem dX7_goCopy_4 : decode cX7_goCopy 4 = .ok (.bipush 106, 2) := by decide +kernel
theorem dX7_goCopy_6 : decode cX7_goCopy 6 = .ok (.dup2, 1) := by decide +kernel
theorem dX7_goCopy_7 : decode cX7_goCopy 7 = .ok (.iaload, 1) := by decide +kernel
theorem dX7_goCopy_8 : decode cX7_goCopy 8 = .ok (.iconst 1, 1) := by decide +kernel
theorem dX7_goCopy_9 : decode cX7_goCopy 9 = .ok (.isub, 1) := by decide +kernel
theorem dX7_goCopy_10 : decode cX7_goCopy 10 = .ok (.iastore, 1) := by decide +kernel
theorem dX7_goCopy_11 : decode cX7_goCopy 11 = .ok (.aload_n 0, 1) := by decide +kernel
theorem dX7_goCopy_12 : decode cX7_goCopy 12 = .ok (.getfield 76, 3) := by decide +kernel
theorem dX7_goCopy_15 : decode cX7_goCopy 15 = .ok (.bipush 106, 2) := by decide +kernel
theorem dX7_goCopy_17 : decode cX7_goCopy 17 = .ok (.iaload, 1) := by decide +kernel
theorem dX7_goCopy_18 : decode cX7_goCopy 18 = .ok (.ifCond .le 4, 3) := by decide +kernel
theorem dX7_goCopy_21 : decode cX7_goCopy 21 = .ok (.return_, 1) := by decide +kernel
theorem dX7_goCopy_22 : decode cX7_goCopy 22 = .ok (.aload_n 0, 1) := by decide +kernel
theorem dX7_goCopy_23 : decode cX7_goCopy 23 = .ok (.getfield 76, 3) := by decide +kernel
theorem dX7_goCopy_26 : decode cX7_goCopy 26 = .ok (.bipush 105, 2) := by decide +kernel
theorem dX7_goCopy_28 : decode cX7_goCopy 28 = .ok (.iaload, 1) := by decide +kernel
theorem dX7_goCopy_29 : decode cX7_goCopy 29 = .ok (.istore_n 1, 1) := by decide +kernel
theorem dX7_goCopy_30 : decode cX7_goCopy 30 = .ok (.aload_n 0, 1) := by decide +kernel
theorem dX7_goCopy_31 : decode cX7_goCopy 31 = .ok (.invokevirtual 313, 3) := by decide +kernel
theorem dX7_goCopy_34 : decode cX7_goCopy 34 = .ok (.iconst 1, 1) := by decide +kernel
theorem dX7_goCopy_35 : decode cX7_goCopy 35 = .ok (.isub, 1) := by decide +kernel
theorem dX7_goCopy_36 : decode cX7_goCopy 36 = .ok (.istore_n 2, 1) := by decide +kernel
theorem dX7_goCopy_37 : decode cX7_goCopy 37 = .ok (.aload_n 0, 1) := by decide +kernel
theorem dX7_goCopy_38 : decode cX7_goCopy 38 = .ok (.getfield 76, 3) := by decide +kernel
theorem dX7_goCopy_41 : decode cX7_goCopy 41 = .ok (.bipush 7, 2) := by decide +kernel
theorem dX7_goCopy_43 : decode cX7_goCopy 43 = .ok (.iload_n 1, 1) := by decide +kernel
theorem dX7_goCopy_44 : decode cX7_goCopy 44 = .ok (.iadd, 1) := by decide +kernel
theorem dX7_goCopy_45 : decode cX7_goCopy 45 = .ok (.aload_n 0, 1) := by decide +kernel
theorem dX7_goCopy_46 : decode cX7_goCopy 46 = .ok (.iload_n 2, 1) := by decide +kernel
theorem dX7_goCopy_47 : decode cX7_goCopy 47 = .ok (.invokevirtual 354, 3) := by decide +kernel
theorem dX7_goCopy_50 : decode cX7_goCopy 50 = .ok (.iastore, 1) := by decide +kernel
theorem dX7_goCopy_51 : decode cX7_goCopy 51 = .ok (.aload_n 0, 1) := by decide +kernel
theorem dX7_goCopy_52 : decode cX7_goCopy 52 = .ok (.getfield 76, 3) := by decide +kernel
theorem dX7_goCopy_55 : decode cX7_goCopy 55 = .ok (.bipush 15, 2) := by decide +kernel
theorem dX7_goCopy_57 : decode cX7_goCopy 57 = .ok (.iload_n 1, 1) := by decide +kernel
theorem dX7_goCopy_58 : decode cX7_goCopy 58 = .ok (.iadd, 1) := by decide +kernel
theorem dX7_goCopy_59 : decode cX7_goCopy 59 = .ok (.aload_n 0, 1) := by decide +kernel
theorem dX7_goCopy_60 : decode cX7_goCopy 60 = .ok (.iload_n 2, 1) := by decide +kernel
theorem dX7_goCopy_61 : decode cX7_goCopy 61 = .ok (.invokevirtual 354, 3) := by decide +kernel
theorem dX7_goCopy_64 : decode cX7_goCopy 64 = .ok (.iastore, 1) := by decide +kernel
theorem dX7_goCopy_65 : decode cX7_goCopy 65 = .ok (.aload_n 0, 1) := by decide +kernel
theorem dX7_goCopy_66 : decode cX7_goCopy 66 = .ok (.getfield 76, 3) := by decide +kernel
theorem dX7_goCopy_69 : decode cX7_goCopy 69 = .ok (.iconst 1, 1) := by decide +kernel
theorem dX7_goCopy_70 : decode cX7_goCopy 70 = .ok (.aload_n 0, 1) := by decide +kernel
theorem dX7_goCopy_71 : decode cX7_goCopy 71 = .ok (.invokevirtual 313, 3) := by decide +kernel
theorem dX7_goCopy_74 : decode cX7_goCopy 74 = .ok (.iadd, 1) := by decide +kernel
theorem dX7_goCopy_75 : decode cX7_goCopy 75 = .ok (.iload_n 1, 1) := by decide +kernel
theorem dX7_goCopy_76 : decode cX7_goCopy 76 = .ok (.iastore, 1) := by decide +kernel
theorem dX7_goCopy_77 : decode cX7_goCopy 77 = .ok (.aload_n 0, 1) := by decide +kernel
theorem dX7_goCopy_78 : decode cX7_goCopy 78 = .ok (.getfield 76, 3) := by decide +kernel
theorem dX7_goCopy_81 : decode cX7_goCopy 81 = .ok (.iconst 0, 1) := by decide +kernel
theorem dX7_goCopy_82 : decode cX7_goCopy 82 = .ok (.dup2, 1) := by decide +kernel
theorem dX7_goCopy_83 : decode cX7_goCopy 83 = .ok (.iaload, 1) := by decide +kernel
theorem dX7_goCopy_84 : decode cX7_goCopy 84 = .ok (.iconst 1, 1) := by decide +kernel
theorem dX7_goCopy_85 : decode cX7_goCopy 85 = .ok (.iadd, 1) := by decide +kernel
theorem dX7_goCopy_86 : decode cX7_goCopy 86 = .ok (.iastore, 1) := by decide +kernel
theorem dX7_goCopy_87 : decode cX7_goCopy 87 = .ok (.aload_n 0, 1) := by decide +kernel
theorem dX7_goCopy_88 : decode cX7_goCopy 88 = .ok (.getfield 76, 3) := by decide +kernel
theorem dX7_goCopy_91 : decode cX7_goCopy 91 = .ok (.bipush 105, 2) := by decide +kernel
theorem dX7_goCopy_93 : decode cX7_goCopy 93 = .ok (.iconst (-1), 1) := by decide +kernel
theorem dX7_goCopy_94 : decode cX7_goCopy 94 = .ok (.iastore, 1) := by decide +kernel
theorem dX7_goCopy_95 : decode cX7_goCopy 95 = .ok (.return_, 1) := by decide +kernel
theorem dX7_goLoss_0 : decode cX7_goLoss 0 = .ok (.aload_n 0, 1) := by decide +kernel
theorem dX7_goLoss_1 : decode cX7_goLoss 1 = .ok (.iload_n 1, 1) := by decide +kernel
theorem dX7_goLoss_2 : decode cX7_goLoss 2 = .ok (.invokevirtual 310, 3) := by decide +kernel
theorem dX7_goLoss_5 : decode cX7_goLoss 5 = .ok (.istore_n 2, 1) := by decide +kernel
theorem dX7_goLoss_6 : decode cX7_goLoss 6 = .ok (.aload_n 0, 1) := by decide +kernel
theorem dX7_goLoss_7 : decode cX7_goLoss 7 = .ok (.invokevirtual 313, 3) := by decide +kernel
theorem dX7_goLoss_10 : decode cX7_goLoss 10 = .ok (.iconst 1, 1) := by decide +kernel
theorem dX7_goLoss_11 : decode cX7_goLoss 11 = .ok (.isub, 1) := by decide +kernel
theorem dX7_goLoss_12 : decode cX7_goLoss 12 = .ok (.istore_n 3, 1) := by decide +kernel
theorem dX7_goLoss_13 : decode cX7_goLoss 13 = .ok (.iload_n 1, 1) := by decide +kernel
theorem dX7_goLoss_14 : decode cX7_goLoss 14 = .ok (.ifCond .ne 17, 3) := by decide +kernel
theorem dX7_goLoss_17 : decode cX7_goLoss 17 = .ok (.aload_n 0, 1) := by decide +kernel
theorem dX7_goLoss_18 : decode cX7_goLoss 18 = .ok (.iconst 0, 1) := by decide +kernel
theorem dX7_goLoss_19 : decode cX7_goLoss 19 = .ok (.invokevirtual 354, 3) := by decide +kernel
theorem dX7_goLoss_22 : decode cX7_goLoss 22 = .ok (.aload_n 0, 1) := by decide +kernel
theorem dX7_goLoss_23 : decode cX7_goLoss 23 = .ok (.iconst 1, 1) := by decide +kernel
theorem dX7_goLoss_24 : decode cX7_goLoss 24 = .ok (.invokevirtual 354, 3) := by decide +kernel
theorem dX7_goLoss_27 : decode cX7_goLoss 27 = .ok (.isub, 1) := by decide +kernel
theorem dX7_goLoss_28 : decode cX7_goLoss 28 = .ok (.goto 4, 3) := by decide +kernel
theorem dX7_goLoss_31 : decode cX7_goLoss 31 = .ok (.iconst 0, 1) := by decide +kernel
theorem dX7_goLoss_32 : decode cX7_goLoss 32 = .ok (.istore 4, 2) := by decide +kernel
theorem dX7_goLoss_34 : decode cX7_goLoss 34 = .ok (.aload_n 0, 1) := by decide +kernel
theorem dX7_goLoss_35 : decode cX7_goLoss 35 = .ok (.getfield 76, 3) := by decide +kernel
theorem dX7_goLoss_38 : decode cX7_goLoss 38 = .ok (.bipush 107, 2) := by decide +kernel
theorem dX7_goLoss_40 : decode cX7_goLoss 40 = .ok (.dup2, 1) := by decide +kernel
theorem dX7_goLoss_41 : decode cX7_goLoss 41 = .ok (.iaload, 1) := by decide +kernel
theorem dX7_goLoss_42 : decode cX7_goLoss 42 = .ok (.iload 4, 2) := by decide +kernel
theorem dX7_goLoss_44 : decode cX7_goLoss 44 = .ok (.iadd, 1) := by decide +kernel
theorem dX7_goLoss_45 : decode cX7_goLoss 45 = .ok (.iastore, 1) := by decide +kernel
theorem dX7_goLoss_46 : decode cX7_goLoss 46 = .ok (.aload_n 0, 1) := by decide +kernel
theorem dX7_goLoss_47 : decode cX7_goLoss 47 = .ok (.getfield 76, 3) := by decide +kernel
theorem dX7_goLoss_50 : decode cX7_goLoss 50 = .ok (.bipush 7, 2) := by decide +kernel
theorem dX7_goLoss_52 : decode cX7_goLoss 52 = .ok (.iload_n 2, 1) := by decide +kernel
theorem dX7_goLoss_53 : decode cX7_goLoss 53 = .ok (.iadd, 1) := by decide +kernel
theorem dX7_goLoss_54 : decode cX7_goLoss 54 = .ok (.iconst 0, 1) := by decide +kernel
theorem dX7_goLoss_55 : decode cX7_goLoss 55 = .ok (.iastore, 1) := by decide +kernel
theorem dX7_goLoss_56 : decode cX7_goLoss 56 = .ok (.aload_n 0, 1) := by decide +kernel
theorem dX7_goLoss_57 : decode cX7_goLoss 57 = .ok (.getfield 76, 3) := by decide +kernel
theorem dX7_goLoss_60 : decode cX7_goLoss 60 = .ok (.bipush 15, 2) := by decide +kernel
theorem dX7_goLoss_62 : decode cX7_goLoss 62 = .ok (.iload_n 2, 1) := by decide +kernel
theorem dX7_goLoss_63 : decode cX7_goLoss 63 = .ok (.iadd, 1) := by decide +kernel
theorem dX7_goLoss_64 : decode cX7_goLoss 64 = .ok (.iconst 0, 1) := by decide +kernel
theorem dX7_goLoss_65 : decode cX7_goLoss 65 = .ok (.iastore, 1) := by decide +kernel
theorem dX7_goLoss_66 : decode cX7_goLoss 66 = .ok (.iload_n 1, 1) := by decide +kernel
theorem dX7_goLoss_67 : decode cX7_goLoss 67 = .ok (.istore 5, 2) := by decide +kernel
theorem dX7_goLoss_69 : decode cX7_goLoss 69 = .ok (.iload 5, 2) := by decide +kernel
theorem dX7_goLoss_71 : decode cX7_goLoss 71 = .ok (.iload_n 3, 1) := by decide +kernel
theorem dX7_goLoss_72 : decode cX7_goLoss 72 = .ok (.if_icmp .ge 32, 3) := by decide +kernel
theorem dX7_goLoss_75 : decode cX7_goLoss 75 = .ok (.aload_n 0, 1) := by decide +kernel
theorem dX7_goLoss_76 : decode cX7_goLoss 76 = .ok (.getfield 76, 3) := by decide +kernel
theorem dX7_goLoss_79 : decode cX7_goLoss 79 = .ok (.iconst 1, 1) := by decide +kernel
theorem dX7_goLoss_80 : decode cX7_goLoss 80 = .ok (.iload 5, 2) := by decide +kernel
theorem dX7_goLoss_82 : decode cX7_goLoss 82 = .ok (.iadd, 1) := by decide +kernel
theorem dX7_goLoss_83 : decode cX7_goLoss 83 = .ok (.aload_n 0, 1) := by decide +kernel
theorem dX7_goLoss_84 : decode cX7_goLoss 84 = .ok (.iload 5, 2) := by decide +kernel
theorem dX7_goLoss_86 : decode cX7_goLoss 86 = .ok (.iconst 1, 1) := by decide +kernel
theorem dX7_goLoss_87 : decode cX7_goLoss 87 = .ok (.iadd, 1) := by decide +kernel
theorem dX7_goLoss_88 : decode cX7_goLoss 88 = .ok (.invokevirtual 310, 3) := by decide +kernel
theorem dX7_goLoss_91 : decode cX7_goLoss 91 = .ok (.iastore, 1) := by decide +kernel
theorem dX7_goLoss_92 : decode cX7_goLoss 92 = .ok (.aload_n 0, 1) := by decide +kernel
theorem dX7_goLoss_93 : decode cX7_goLoss 93 = .ok (.iload 5, 2) := by decide +kernel
theorem dX7_goLoss_95 : decode cX7_goLoss 95 = .ok (.invokevirtual 383, 3) := by decide +kernel
theorem dX7_goLoss_98 : decode cX7_goLoss 98 = .ok (.iinc 5 1, 3) := by decide +kernel
theorem dX7_goLoss_101 : decode cX7_goLoss 101 = .ok (.goto (-32), 3) := by decide +kernel
theorem dX7_goLoss_104 : decode cX7_goLoss 104 = .ok (.aload_n 0, 1) := by decide +kernel
theorem dX7_goLoss_105 : decode cX7_goLoss 105 = .ok (.getfield 76, 3) := by decide +kernel
theorem dX7_goLoss_108 : decode cX7_goLoss 108 = .ok (.iconst 0, 1) := by decide +kernel
theorem dX7_goLoss_109 : decode cX7_goLoss 109 = .ok (.dup2, 1) := by decide +kernel
theorem dX7_goLoss_110 : decode cX7_goLoss 110 = .ok (.iaload, 1) := by decide +kernel
theorem dX7_goLoss_111 : decode cX7_goLoss 111 = .ok (.iconst 1, 1) := by decide +kernel
theorem dX7_goLoss_112 : decode cX7_goLoss 112 = .ok (.isub, 1) := by decide +kernel
theorem dX7_goLoss_113 : decode cX7_goLoss 113 = .ok (.iastore, 1) := by decide +kernel
theorem dX7_goLoss_114 : decode cX7_goLoss 114 = .ok (.iload_n 1, 1) := by decide +kernel
theorem dX7_goLoss_115 : decode cX7_goLoss 115 = .ok (.iload_n 3, 1) := by decide +kernel
theorem dX7_goLoss_116 : decode cX7_goLoss 116 = .ok (.if_icmp .ne 10, 3) := by decide +kernel
theorem dX7_goLoss_119 : decode cX7_goLoss 119 = .ok (.aload_n 0, 1) := by decide +kernel
theorem dX7_goLoss_120 : decode cX7_goLoss 120 = .ok (.invokevirtual 386, 3) := by decide +kernel
theorem dX7_goLoss_123 : decode cX7_goLoss 123 = .ok (.goto 14, 3) := by decide +kernel
theorem dX7_goLoss_126 : decode cX7_goLoss 126 = .ok (.iload_n 1, 1) := by decide +kernel
theorem dX7_goLoss_127 : decode cX7_goLoss 127 = .ok (.ifCond .le 10, 3) := by decide +kernel
theorem dX7_goLoss_130 : decode cX7_goLoss 130 = .ok (.aload_n 0, 1) := by decide +kernel
theorem dX7_goLoss_131 : decode cX7_goLoss 131 = .ok (.iload_n 1, 1) := by decide +kernel
theorem dX7_goLoss_132 : decode cX7_goLoss 132 = .ok (.iconst 1, 1) := by decide +kernel
theorem dX7_goLoss_133 : decode cX7_goLoss 133 = .ok (.isub, 1) := by decide +kernel
theorem dX7_goLoss_134 : decode cX7_goLoss 134 = .ok (.invokevirtual 389, 3) := by decide +kernel
theorem dX7_goLoss_137 : decode cX7_goLoss 137 = .ok (.iload 4, 2) := by decide +kernel
theorem dX7_goLoss_139 : decode cX7_goLoss 139 = .ok (.ireturn, 1) := by decide +kernel
theorem dX7_moveMessages_0 : decode cX7_moveMessages 0 = .ok (.iconst 0, 1) := by decide +kernel
theorem dX7_moveMessages_1 : decode cX7_moveMessages 1 = .ok (.istore_n 2, 1) := by decide +kernel
theorem dX7_moveMessages_2 : decode cX7_moveMessages 2 = .ok (.iload_n 2, 1) := by decide +kernel
theorem dX7_moveMessages_3 : decode cX7_moveMessages 3 = .ok (.bipush 41, 2) := by decide +kernel
theorem dX7_moveMessages_5 : decode cX7_moveMessages 5 = .ok (.if_icmp .ge 78, 3) := by decide +kernel
theorem dX7_moveMessages_8 : decode cX7_moveMessages 8 = .ok (.iload_n 1, 1) := by decide +kernel
theorem dX7_moveMessages_9 : decode cX7_moveMessages 9 = .ok (.iconst 1, 1) := by decide +kernel
theorem dX7_moveMessages_10 : decode cX7_moveMessages 10 = .ok (.iadd, 1) := by decide +kernel
theorem dX7_moveMessages_11 : decode cX7_moveMessages 11 = .ok (.iconst 5, 1) := by decide +kernel
theorem dX7_moveMessages_12 : decode cX7_moveMessages 12 = .ok (.if_icmp .ge 71, 3) := by decide +kernel
theorem dX7_moveMessages_15 : decode cX7_moveMessages 15 = .ok (.aload_n 0, 1) := by decide +kernel
theorem dX7_moveMessages_16 : decode cX7_moveMessages 16 = .ok (.getfield 76, 3) := by decide +kernel
theorem dX7_moveMessages_19 : decode cX7_moveMessages 19 = .ok (.bipush 110, 2) := by decide +kernel
theorem dX7_moveMessages_21 : decode cX7_moveMessages 21 = .ok (.bipush 41, 2) := by decide +kernel
theorem dX7_moveMessages_23 : decode cX7_moveMessages 23 = .ok (.iload_n 1, 1) := by decide +kernel
theorem dX7_moveMessages_24 : decode cX7_moveMessages 24 = .ok (.imul, 1) := by decide +kernel
theorem dX7_moveMessages_25 : decode cX7_moveMessages 25 = .ok (.iadd, 1) := by decide +kernel
theorem dX7_moveMessages_26 : decode cX7_moveMessages 26 = .ok (.iload_n 2, 1) := by decide +kernel
theorem dX7_moveMessages_27 : decode cX7_moveMessages 27 = .ok (.iadd, 1) := by decide +kernel
theorem dX7_moveMessages_28 : decode cX7_moveMessages 28 = .ok (.aload_n 0, 1) := by decide +kernel
theorem dX7_moveMessages_29 : decode cX7_moveMessages 29 = .ok (.getfield 76, 3) := by decide +kernel
theorem dX7_moveMessages_32 : decode cX7_moveMessages 32 = .ok (.bipush 110, 2) := by decide +kernel
theorem dX7_moveMessages_34 : decode cX7_moveMessages 34 = .ok (.bipush 41, 2) := by decide +kernel
theorem dX7_moveMessages_36 : decode cX7_moveMessages 36 = .ok (.iload_n 1, 1) := by decide +kernel
theorem dX7_moveMessages_37 : decode cX7_moveMessages 37 = .ok (.iconst 1, 1) := by decide +kernel
theorem dX7_moveMessages_38 : decode cX7_moveMessages 38 = .ok (.iadd, 1) := by decide +kernel
theorem dX7_moveMessages_39 : decode cX7_moveMessages 39 = .ok (.imul, 1) := by decide +kernel
theorem dX7_moveMessages_40 : decode cX7_moveMessages 40 = .ok (.iadd, 1) := by decide +kernel
theorem dX7_moveMessages_41 : decode cX7_moveMessages 41 = .ok (.iload_n 2, 1) := by decide +kernel
theorem dX7_moveMessages_42 : decode cX7_moveMessages 42 = .ok (.iadd, 1) := by decide +kernel
theorem dX7_moveMessages_43 : decode cX7_moveMessages 43 = .ok (.iaload, 1) := by decide +kernel
theorem dX7_moveMessages_44 : decode cX7_moveMessages 44 = .ok (.iastore, 1) := by decide +kernel
theorem dX7_moveMessages_45 : decode cX7_moveMessages 45 = .ok (.aload_n 0, 1) := by decide +kernel
theorem dX7_moveMessages_46 : decode cX7_moveMessages 46 = .ok (.getfield 76, 3) := by decide +kernel
theorem dX7_moveMessages_49 : decode cX7_moveMessages 49 = .ok (.sipush 315, 3) := by decide +kernel
theorem dX7_moveMessages_52 : decode cX7_moveMessages 52 = .ok (.bipush 41, 2) := by decide +kernel
theorem dX7_moveMessages_54 : decode cX7_moveMessages 54 = .ok (.iload_n 1, 1) := by decide +kernel
theorem dX7_moveMessages_55 : decode cX7_moveMessages 55 = .ok (.imul, 1) := by decide +kernel
theorem dX7_moveMessages_56 : decode cX7_moveMessages 56 = .ok (.iadd, 1) := by decide +kernel
theorem dX7_moveMessages_57 : decode cX7_moveMessages 57 = .ok (.iload_n 2, 1) := by decide +kernel
theorem dX7_moveMessages_58 : decode cX7_moveMessages 58 = .ok (.iadd, 1) := by decide +kernel
theorem dX7_moveMessages_59 : decode cX7_moveMessages 59 = .ok (.aload_n 0, 1) := by decide +kernel
theorem dX7_moveMessages_60 : decode cX7_moveMessages 60 = .ok (.getfield 76, 3) := by decide +kernel
theorem dX7_moveMessages_63 : decode cX7_moveMessages 63 = .ok (.sipush 315, 3) := by decide +kernel
theorem dX7_moveMessages_66 : decode cX7_moveMessages 66 = .ok (.bipush 41, 2) := by decide +kernel
theorem dX7_moveMessages_68 : decode cX7_moveMessages 68 = .ok (.iload_n 1, 1) := by decide +kernel
theorem dX7_moveMessages_69 : decode cX7_moveMessages 69 = .ok (.iconst 1, 1) := by decide +kernel
theorem dX7_moveMessages_70 : decode cX7_moveMessages 70 = .ok (.iadd, 1) := by decide +kernel
theorem dX7_moveMessages_71 : decode cX7_moveMessages 71 = .ok (.imul, 1) := by decide +kernel
theorem dX7_moveMessages_72 : decode cX7_moveMessages 72 = .ok (.iadd, 1) := by decide +kernel
theorem dX7_moveMessages_73 : decode cX7_moveMessages 73 = .ok (.iload_n 2, 1) := by decide +kernel
theorem dX7_moveMessages_74 : decode cX7_moveMessages 74 = .ok (.iadd, 1) := by decide +kernel
theorem dX7_moveMessages_75 : decode cX7_moveMessages 75 = .ok (.iaload, 1) := by decide +kernel
theorem dX7_moveMessages_76 : decode cX7_moveMessages 76 = .ok (.iastore, 1) := by decide +kernel
theorem dX7_moveMessages_77 : decode cX7_moveMessages 77 = .ok (.iinc 2 1, 3) := by decide +kernel
theorem dX7_moveMessages_80 : decode cX7_moveMessages 80 = .ok (.goto (-78), 3) := by decide +kernel
theorem dX7_moveMessages_83 : decode cX7_moveMessages 83 = .ok (.return_, 1) := by decide +kernel
theorem dX7_loseTail_0 : decode cX7_loseTail 0 = .ok (.aload_n 0, 1) := by decide +kernel
theorem dX7_loseTail_1 : decode cX7_loseTail 1 = .ok (.invokevirtual 313, 3) := by decide +kernel
theorem dX7_loseTail_4 : decode cX7_loseTail 4 = .ok (.iconst 1, 1) := by decide +kernel
theorem dX7_loseTail_5 : decode cX7_loseTail 5 = .ok (.isub, 1) := by decide +kernel
theorem dX7_loseTail_6 : decode cX7_loseTail 6 = .ok (.istore_n 1, 1) := by decide +kernel
theorem dX7_loseTail_7 : decode cX7_loseTail 7 = .ok (.aload_n 0, 1) := by decide +kernel
theorem dX7_loseTail_8 : decode cX7_loseTail 8 = .ok (.iload_n 1, 1) := by decide +kernel
theorem dX7_loseTail_9 : decode cX7_loseTail 9 = .ok (.invokevirtual 365, 3) := by decide +kernel
theorem dX7_loseTail_12 : decode cX7_loseTail 12 = .ok (.aload_n 0, 1) := by decide +kernel
theorem dX7_loseTail_13 : decode cX7_loseTail 13 = .ok (.iload_n 1, 1) := by decide +kernel
theorem dX7_loseTail_14 : decode cX7_loseTail 14 = .ok (.invokevirtual 354, 3) := by decide +kernel
theorem dX7_loseTail_17 : decode cX7_loseTail 17 = .ok (.if_icmp .ge 11, 3) := by decide +kernel
theorem dX7_loseTail_20 : decode cX7_loseTail 20 = .ok (.aload_n 0, 1) := by decide +kernel
theorem dX7_loseTail_21 : decode cX7_loseTail 21 = .ok (.iload_n 1, 1) := by decide +kernel
theorem dX7_loseTail_22 : decode cX7_loseTail 22 = .ok (.invokevirtual 361, 3) := by decide +kernel
theorem dX7_loseTail_25 : decode cX7_loseTail 25 = .ok (.goto (-18), 3) := by decide +kernel
theorem dX7_loseTail_28 : decode cX7_loseTail 28 = .ok (.aload_n 0, 1) := by decide +kernel
theorem dX7_loseTail_29 : decode cX7_loseTail 29 = .ok (.getfield 76, 3) := by decide +kernel
theorem dX7_loseTail_32 : decode cX7_loseTail 32 = .ok (.bipush 105, 2) := by decide +kernel
theorem dX7_loseTail_34 : decode cX7_loseTail 34 = .ok (.iaload, 1) := by decide +kernel
theorem dX7_loseTail_35 : decode cX7_loseTail 35 = .ok (.ifCond .lt 19, 3) := by decide +kernel
theorem dX7_loseTail_38 : decode cX7_loseTail 38 = .ok (.aload_n 0, 1) := by decide +kernel
theorem dX7_loseTail_39 : decode cX7_loseTail 39 = .ok (.getfield 76, 3) := by decide +kernel
theorem dX7_loseTail_42 : decode cX7_loseTail 42 = .ok (.bipush 106, 2) := by decide +kernel
theorem dX7_loseTail_44 : decode cX7_loseTail 44 = .ok (.aload_n 0, 1) := by decide +kernel
theorem dX7_loseTail_45 : decode cX7_loseTail 45 = .ok (.getfield 33, 3) := by decide +kernel
theorem dX7_loseTail_48 : decode cX7_loseTail 48 = .ok (.aload_n 0, 1) := by decide +kernel
theorem dX7_loseTail_49 : decode cX7_loseTail 49 = .ok (.getfield 214, 3) := by decide +kernel
theorem dX7_loseTail_52 : decode cX7_loseTail 52 = .ok (.iaload, 1) := by decide +kernel
theorem dX7_loseTail_53 : decode cX7_loseTail 53 = .ok (.iastore, 1) := by decide +kernel
theorem dX7_loseTail_54 : decode cX7_loseTail 54 = .ok (.return_, 1) := by decide +kernel
theorem dX7_mend_0 : decode cX7_mend 0 = .ok (.aload_n 0, 1) := by decide +kernel
theorem dX7_mend_1 : decode cX7_mend 1 = .ok (.iload_n 1, 1) := by decide +kernel
theorem dX7_mend_2 : decode cX7_mend 2 = .ok (.iconst 1, 1) := by decide +kernel
theorem dX7_mend_3 : decode cX7_mend 3 = .ok (.iadd, 1) := by decide +kernel
theorem dX7_mend_4 : decode cX7_mend 4 = .ok (.invokevirtual 354, 3) := by decide +kernel
theorem dX7_mend_7 : decode cX7_mend 7 = .ok (.iconst 1, 1) := by decide +kernel
theorem dX7_mend_8 : decode cX7_mend 8 = .ok (.iadd, 1) := by decide +kernel
theorem dX7_mend_9 : decode cX7_mend 9 = .ok (.istore_n 2, 1) := by decide +kernel
theorem dX7_mend_10 : decode cX7_mend 10 = .ok (.iload_n 2, 1) := by decide +kernel
theorem dX7_mend_11 : decode cX7_mend 11 = .ok (.aload_n 0, 1) := by decide +kernel
theorem dX7_mend_12 : decode cX7_mend 12 = .ok (.iload_n 1, 1) := by decide +kernel
theorem dX7_mend_13 : decode cX7_mend 13 = .ok (.invokevirtual 354, 3) := by decide +kernel
theorem dX7_mend_16 : decode cX7_mend 16 = .ok (.if_icmp .gt 26, 3) := by decide +kernel
theorem dX7_mend_19 : decode cX7_mend 19 = .ok (.aload_n 0, 1) := by decide +kernel
theorem dX7_mend_20 : decode cX7_mend 20 = .ok (.iload_n 1, 1) := by decide +kernel
theorem dX7_mend_21 : decode cX7_mend 21 = .ok (.iload_n 2, 1) := by decide +kernel
theorem dX7_mend_22 : decode cX7_mend 22 = .ok (.iload_n 2, 1) := by decide +kernel
theorem dX7_mend_23 : decode cX7_mend 23 = .ok (.iconst 1, 1) := by decide +kernel
theorem dX7_mend_24 : decode cX7_mend 24 = .ok (.isub, 1) := by decide +kernel
theorem dX7_mend_25 : decode cX7_mend 25 = .ok (.aload_n 0, 1) := by decide +kernel
theorem dX7_mend_26 : decode cX7_mend 26 = .ok (.iload_n 1, 1) := by decide +kernel
theorem dX7_mend_27 : decode cX7_mend 27 = .ok (.iconst 1, 1) := by decide +kernel
theorem dX7_mend_28 : decode cX7_mend 28 = .ok (.iadd, 1) := by decide +kernel
theorem dX7_mend_29 : decode cX7_mend 29 = .ok (.invokevirtual 354, 3) := by decide +kernel
theorem dX7_mend_32 : decode cX7_mend 32 = .ok (.isub, 1) := by decide +kernel
theorem dX7_mend_33 : decode cX7_mend 33 = .ok (.invokevirtual 357, 3) := by decide +kernel
theorem dX7_mend_36 : decode cX7_mend 36 = .ok (.iinc 2 1, 3) := by decide +kernel
theorem dX7_mend_39 : decode cX7_mend 39 = .ok (.goto (-29), 3) := by decide +kernel
theorem dX7_mend_42 : decode cX7_mend 42 = .ok (.aload_n 0, 1) := by decide +kernel
theorem dX7_mend_43 : decode cX7_mend 43 = .ok (.iload_n 1, 1) := by decide +kernel
theorem dX7_mend_44 : decode cX7_mend 44 = .ok (.invokevirtual 365, 3) := by decide +kernel
theorem dX7_mend_47 : decode cX7_mend 47 = .ok (.iconst 1, 1) := by decide +kernel
theorem dX7_mend_48 : decode cX7_mend 48 = .ok (.iadd, 1) := by decide +kernel
theorem dX7_mend_49 : decode cX7_mend 49 = .ok (.istore_n 2, 1) := by decide +kernel
theorem dX7_mend_50 : decode cX7_mend 50 = .ok (.iload_n 2, 1) := by decide +kernel
theorem dX7_mend_51 : decode cX7_mend 51 = .ok (.aload_n 0, 1) := by decide +kernel
theorem dX7_mend_52 : decode cX7_mend 52 = .ok (.iload_n 1, 1) := by decide +kernel
theorem dX7_mend_53 : decode cX7_mend 53 = .ok (.iconst 1, 1) := by decide +kernel
theorem dX7_mend_54 : decode cX7_mend 54 = .ok (.iadd, 1) := by decide +kernel
theorem dX7_mend_55 : decode cX7_mend 55 = .ok (.invokevirtual 365, 3) := by decide +kernel
theorem dX7_mend_58 : decode cX7_mend 58 = .ok (.if_icmp .gt 24, 3) := by decide +kernel
theorem dX7_mend_61 : decode cX7_mend 61 = .ok (.aload_n 0, 1) := by decide +kernel
theorem dX7_mend_62 : decode cX7_mend 62 = .ok (.iload_n 1, 1) := by decide +kernel
theorem dX7_mend_63 : decode cX7_mend 63 = .ok (.iload_n 2, 1) := by decide +kernel
theorem dX7_mend_64 : decode cX7_mend 64 = .ok (.iload_n 2, 1) := by decide +kernel
theorem dX7_mend_65 : decode cX7_mend 65 = .ok (.iconst 1, 1) := by decide +kernel
theorem dX7_mend_66 : decode cX7_mend 66 = .ok (.isub, 1) := by decide +kernel
theorem dX7_mend_67 : decode cX7_mend 67 = .ok (.aload_n 0, 1) := by decide +kernel
theorem dX7_mend_68 : decode cX7_mend 68 = .ok (.iload_n 1, 1) := by decide +kernel
theorem dX7_mend_69 : decode cX7_mend 69 = .ok (.invokevirtual 365, 3) := by decide +kernel
theorem dX7_mend_72 : decode cX7_mend 72 = .ok (.isub, 1) := by decide +kernel
theorem dX7_mend_73 : decode cX7_mend 73 = .ok (.invokevirtual 368, 3) := by decide +kernel
theorem dX7_mend_76 : decode cX7_mend 76 = .ok (.iinc 2 1, 3) := by decide +kernel
theorem dX7_mend_79 : decode cX7_mend 79 = .ok (.goto (-29), 3) := by decide +kernel
theorem dX7_mend_82 : decode cX7_mend 82 = .ok (.return_, 1) := by decide +kernel
theorem dX7_goTickInEarnest_0 : decode cX7_goTickInEarnest 0 = .ok (.aload_n 0, 1) := by decide +kernel
theorem dX7_goTickInEarnest_1 : decode cX7_goTickInEarnest 1 = .ok (.aload_n 0, 1) := by decide +kernel
theorem dX7_goTickInEarnest_2 : decode cX7_goTickInEarnest 2 = .ok (.invokevirtual 392, 3) := by decide +kernel
theorem dX7_goTickInEarnest_5 : decode cX7_goTickInEarnest 5 = .ok (.putfield 395, 3) := by decide +kernel
theorem dX7_goTickInEarnest_8 : decode cX7_goTickInEarnest 8 = .ok (.aload_n 0, 1) := by decide +kernel
theorem dX7_goTickInEarnest_9 : decode cX7_goTickInEarnest 9 = .ok (.getfield 76, 3) := by decide +kernel
theorem dX7_goTickInEarnest_12 : decode cX7_goTickInEarnest 12 = .ok (.bipush 109, 2) := by decide +kernel
theorem dX7_goTickInEarnest_14 : decode cX7_goTickInEarnest 14 = .ok (.sipush 137, 3) := by decide +kernel
theorem dX7_goTickInEarnest_17 : decode cX7_goTickInEarnest 17 = .ok (.aload_n 0, 1) := by decide +kernel
theorem dX7_goTickInEarnest_18 : decode cX7_goTickInEarnest 18 = .ok (.getfield 76, 3) := by decide +kernel
theorem dX7_goTickInEarnest_21 : decode cX7_goTickInEarnest 21 = .ok (.bipush 109, 2) := by decide +kernel
theorem dX7_goTickInEarnest_23 : decode cX7_goTickInEarnest 23 = .ok (.iaload, 1) := by decide +kernel
theorem dX7_goTickInEarnest_24 : decode cX7_goTickInEarnest 24 = .ok (.imul, 1) := by decide +kernel
theorem dX7_goTickInEarnest_25 : decode cX7_goTickInEarnest 25 = .ok (.bipush 71, 2) := by decide +kernel
theorem dX7_goTickInEarnest_27 : decode cX7_goTickInEarnest 27 = .ok (.iadd, 1) := by decide +kernel
theorem dX7_goTickInEarnest_28 : decode cX7_goTickInEarnest 28 = .ok (.sipush 1000, 3) := by decide +kernel
theorem dX7_goTickInEarnest_31 : decode cX7_goTickInEarnest 31 = .ok (.irem, 1) := by decide +kernel
theorem dX7_goTickInEarnest_32 : decode cX7_goTickInEarnest 32 = .ok (.iastore, 1) := by decide +kernel
theorem dX7_goTickInEarnest_33 : decode cX7_goTickInEarnest 33 = .ok (.aload_n 0, 1) := by decide +kernel
theorem dX7_goTickInEarnest_34 : decode cX7_goTickInEarnest 34 = .ok (.getfield 76, 3) := by decide +kernel
theorem dX7_goTickInEarnest_37 : decode cX7_goTickInEarnest 37 = .ok (.bipush 109, 2) := by decide +kernel
theorem dX7_goTickInEarnest_39 : decode cX7_goTickInEarnest 39 = .ok (.iaload, 1) := by decide +kernel
theorem dX7_goTickInEarnest_40 : decode cX7_goTickInEarnest 40 = .ok (.bipush 100, 2) := by decide +kernel
theorem dX7_goTickInEarnest_42 : decode cX7_goTickInEarnest 42 = .ok (.irem, 1) := by decide +kernel
theorem dX7_goTickInEarnest_43 : decode cX7_goTickInEarnest 43 = .ok (.aload_n 0, 1) := by decide +kernel
theorem dX7_goTickInEarnest_44 : decode cX7_goTickInEarnest 44 = .ok (.getfield 36, 3) := by decide +kernel
theorem dX7_goTickInEarnest_47 : decode cX7_goTickInEarnest 47 = .ok (.aload_n 0, 1) := by decide +kernel
theorem dX7_goTickInEarnest_48 : decode cX7_goTickInEarnest 48 = .ok (.getfield 214, 3) := by decide +kernel
theorem dX7_goTickInEarnest_51 : decode cX7_goTickInEarnest 51 = .ok (.iaload, 1) := by decide +kernel
theorem dX7_goTickInEarnest_52 : decode cX7_goTickInEarnest 52 = .ok (.if_icmp .ge 11, 3) := by decide +kernel
theorem dX7_goTickInEarnest_55 : decode cX7_goTickInEarnest 55 = .ok (.aload_n 0, 1) := by decide +kernel
theorem dX7_goTickInEarnest_56 : decode cX7_goTickInEarnest 56 = .ok (.invokevirtual 313, 3) := by decide +kernel
theorem dX7_goTickInEarnest_59 : decode cX7_goTickInEarnest 59 = .ok (.iconst 2, 1) := by decide +kernel
theorem dX7_goTickInEarnest_60 : decode cX7_goTickInEarnest 60 = .ok (.if_icmp .ge 4, 3) := by decide +kernel
theorem dX7_goTickInEarnest_63 : decode cX7_goTickInEarnest 63 = .ok (.return_, 1) := by decide +kernel
theorem dX7_goTickInEarnest_64 : decode cX7_goTickInEarnest 64 = .ok (.aload_n 0, 1) := by decide +kernel
theorem dX7_goTickInEarnest_65 : decode cX7_goTickInEarnest 65 = .ok (.aload_n 0, 1) := by decide +kernel
theorem dX7_goTickInEarnest_66 : decode cX7_goTickInEarnest 66 = .ok (.getfield 76, 3) := by decide +kernel
theorem dX7_goTickInEarnest_69 : decode cX7_goTickInEarnest 69 = .ok (.bipush 109, 2) := by decide +kernel
theorem dX7_goTickInEarnest_71 : decode cX7_goTickInEarnest 71 = .ok (.iaload, 1) := by decide +kernel
theorem dX7_goTickInEarnest_72 : decode cX7_goTickInEarnest 72 = .ok (.aload_n 0, 1) := by decide +kernel
theorem dX7_goTickInEarnest_73 : decode cX7_goTickInEarnest 73 = .ok (.invokevirtual 313, 3) := by decide +kernel
theorem dX7_goTickInEarnest_76 : decode cX7_goTickInEarnest 76 = .ok (.irem, 1) := by decide +kernel
theorem dX7_goTickInEarnest_77 : decode cX7_goTickInEarnest 77 = .ok (.invokevirtual 398, 3) := by decide +kernel
theorem dX7_goTickInEarnest_80 : decode cX7_goTickInEarnest 80 = .ok (.istore_n 1, 1) := by decide +kernel
theorem dX7_goTickInEarnest_81 : decode cX7_goTickInEarnest 81 = .ok (.return_, 1) := by decide +kernel
theorem dX7_row_0 : decode cX7_row 0 = .ok (.iload_n 1, 1) := by decide +kernel
theorem dX7_row_1 : decode cX7_row 1 = .ok (.iconst 0, 1) := by decide +kernel
theorem dX7_row_2 : decode cX7_row 2 = .ok (.aload_n 0, 1) := by decide +kernel
theorem dX7_row_3 : decode cX7_row 3 = .ok (.invokevirtual 313, 3) := by decide +kernel
theorem dX7_row_6 : decode cX7_row 6 = .ok (.iconst 1, 1) := by decide +kernel
theorem dX7_row_7 : decode cX7_row 7 = .ok (.isub, 1) := by decide +kernel
theorem dX7_row_8 : decode cX7_row 8 = .ok (.invokestatic 316, 3) := by decide +kernel
theorem dX7_row_11 : decode cX7_row 11 = .ok (.ifCond .eq 11, 3) := by decide +kernel
theorem dX7_row_14 : decode cX7_row 14 = .ok (.aload_n 0, 1) := by decide +kernel
theorem dX7_row_15 : decode cX7_row 15 = .ok (.iload_n 1, 1) := by decide +kernel
theorem dX7_row_16 : decode cX7_row 16 = .ok (.invokevirtual 310, 3) := by decide +kernel
theorem dX7_row_19 : decode cX7_row 19 = .ok (.goto 4, 3) := by decide +kernel
theorem dX7_row_22 : decode cX7_row 22 = .ok (.iconst (-1), 1) := by decide +kernel
theorem dX7_row_23 : decode cX7_row 23 = .ok (.ireturn, 1) := by decide +kernel
theorem dX7_node_0 : decode cX7_node 0 = .ok (.aload_n 0, 1) := by decide +kernel
theorem dX7_node_1 : decode cX7_node 1 = .ok (.iload_n 1, 1) := by decide +kernel
theorem dX7_node_2 : decode cX7_node 2 = .ok (.invokevirtual 320, 3) := by decide +kernel
theorem dX7_node_5 : decode cX7_node 5 = .ok (.ifCond .ne 6, 3) := by decide +kernel
theorem dX7_node_8 : decode cX7_node 8 = .ok (.bipush (-2), 2) := by decide +kernel
theorem dX7_node_10 : decode cX7_node 10 = .ok (.ireturn, 1) := by decide +kernel
theorem dX7_node_11 : decode cX7_node 11 = .ok (.iload_n 2, 1) := by decide +kernel
theorem dX7_node_12 : decode cX7_node 12 = .ok (.tableswitch 99 0 4 #[36, 42, 52, 62, 82], 36) := by decide +kernel
theorem dX7_node_48 : decode cX7_node 48 = .ok (.aload_n 0, 1) := by decide +kernel
theorem dX7_node_49 : decode cX7_node 49 = .ok (.iload_n 1, 1) := by decide +kernel
theorem dX7_node_50 : decode cX7_node 50 = .ok (.invokevirtual 323, 3) := by decide +kernel
theorem dX7_node_53 : decode cX7_node 53 = .ok (.ireturn, 1) := by decide +kernel
theorem dX7_node_54 : decode cX7_node 54 = .ok (.aload_n 0, 1) := by decide +kernel
theorem dX7_node_55 : decode cX7_node 55 = .ok (.getfield 76, 3) := by decide +kernel
theorem dX7_node_58 : decode cX7_node 58 = .ok (.bipush 7, 2) := by decide +kernel
theorem dX7_node_60 : decode cX7_node 60 = .ok (.iload_n 1, 1) := by decide +kernel
theorem dX7_node_61 : decode cX7_node 61 = .ok (.iadd, 1) := by decide +kernel
theorem dX7_node_62 : decode cX7_node 62 = .ok (.iaload, 1) := by decide +kernel
theorem dX7_node_63 : decode cX7_node 63 = .ok (.ireturn, 1) := by decide +kernel
theorem dX7_node_64 : decode cX7_node 64 = .ok (.aload_n 0, 1) := by decide +kernel
theorem dX7_node_65 : decode cX7_node 65 = .ok (.getfield 76, 3) := by decide +kernel
theorem dX7_node_68 : decode cX7_node 68 = .ok (.bipush 15, 2) := by decide +kernel
theorem dX7_node_70 : decode cX7_node 70 = .ok (.iload_n 1, 1) := by decide +kernel
theorem dX7_node_71 : decode cX7_node 71 = .ok (.iadd, 1) := by decide +kernel
theorem dX7_node_72 : decode cX7_node 72 = .ok (.iaload, 1) := by decide +kernel
theorem dX7_node_73 : decode cX7_node 73 = .ok (.ireturn, 1) := by decide +kernel
theorem dX7_node_74 : decode cX7_node 74 = .ok (.aload_n 0, 1) := by decide +kernel
theorem dX7_node_75 : decode cX7_node 75 = .ok (.getfield 76, 3) := by decide +kernel
theorem dX7_node_78 : decode cX7_node 78 = .ok (.bipush 7, 2) := by decide +kernel
theorem dX7_node_80 : decode cX7_node 80 = .ok (.iload_n 1, 1) := by decide +kernel
theorem dX7_node_81 : decode cX7_node 81 = .ok (.iadd, 1) := by decide +kernel
theorem dX7_node_82 : decode cX7_node 82 = .ok (.iaload, 1) := by decide +kernel
theorem dX7_node_83 : decode cX7_node 83 = .ok (.aload_n 0, 1) := by decide +kernel
theorem dX7_node_84 : decode cX7_node 84 = .ok (.getfield 76, 3) := by decide +kernel
theorem dX7_node_87 : decode cX7_node 87 = .ok (.bipush 15, 2) := by decide +kernel
theorem dX7_node_89 : decode cX7_node 89 = .ok (.iload_n 1, 1) := by decide +kernel
theorem dX7_node_90 : decode cX7_node 90 = .ok (.iadd, 1) := by decide +kernel
theorem dX7_node_91 : decode cX7_node 91 = .ok (.iaload, 1) := by decide +kernel
theorem dX7_node_92 : decode cX7_node 92 = .ok (.isub, 1) := by decide +kernel
theorem dX7_node_93 : decode cX7_node 93 = .ok (.ireturn, 1) := by decide +kernel
theorem dX7_node_94 : decode cX7_node 94 = .ok (.aload_n 0, 1) := by decide +kernel
theorem dX7_node_95 : decode cX7_node 95 = .ok (.getfield 76, 3) := by decide +kernel
