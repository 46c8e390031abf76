def RJ6 : String := "java/lang/Integer"
def RJ0 : String := "java/lang/String"
def RJ1 : String := "java/lang/StringLatin1"
def RJ3 : String := "jdk/internal/util/Preconditions"
abbrev cJ0_isLatin1_aae02 : ByteArray := prog_13_method_154_code
def yJ0_isLatin1_aae02 : MethodName := ⟨RJ0, "isLatin1", "()Z"⟩
abbrev cJ0_coder_7d493 : ByteArray := prog_13_method_152_code
def yJ0_coder_7d493 : MethodName := ⟨RJ0, "coder", "()B"⟩
abbrev cJ0_length_8abf5 : ByteArray := prog_13_method_54_code
def yJ0_length_8abf5 : MethodName := ⟨RJ0, "length", "()I"⟩
abbrev cJ0_charAt_5068e : ByteArray := prog_13_method_56_code
def yJ0_charAt_5068e : MethodName := ⟨RJ0, "charAt", "(I)C"⟩
abbrev cJ0_indexOf_0f7a4 : ByteArray := prog_13_method_79_code
def yJ0_indexOf_0f7a4 : MethodName := ⟨RJ0, "indexOf", "(I)I"⟩
abbrev cJ0_indexOf_7cf53 : ByteArray := prog_13_method_80_code
def yJ0_indexOf_7cf53 : MethodName := ⟨RJ0, "indexOf", "(II)I"⟩
abbrev cJ0_checkIndex_df160 : ByteArray := prog_13_method_155_code
def yJ0_checkIndex_df160 : MethodName := ⟨RJ0, "checkIndex", "(II)V"⟩
abbrev cJ1_charAt_3b067 : ByteArray := prog_14_method_2_code
def yJ1_charAt_3b067 : MethodName := ⟨RJ1, "charAt", "([BI)C"⟩
abbrev cJ1_canEncode_9a6ad : ByteArray := prog_14_method_4_code
def yJ1_canEncode_9a6ad : MethodName := ⟨RJ1, "canEncode", "(I)Z"⟩
abbrev cJ1_indexOf_4cfef : ByteArray := prog_14_method_22_code
def yJ1_indexOf_4cfef : MethodName := ⟨RJ1, "indexOf", "([BIII)I"⟩
abbrev cJ1_indexOfChar_4cfef : ByteArray := prog_14_method_23_code
def yJ1_indexOfChar_4cfef : MethodName := ⟨RJ1, "indexOfChar", "([BIII)I"⟩
abbrev cJ3_checkIndex_8e157 : ByteArray := prog_17_method_11_code
def yJ3_checkIndex_8e157 : MethodName := ⟨RJ3, "checkIndex", "(IILjava/util/function/BiFunction;)I"⟩
abbrev cJ6_bitCount_0f7a4 : ByteArray := prog_11_method_49_code
def yJ6_bitCount_0f7a4 : MethodName := ⟨RJ6, "bitCount", "(I)I"⟩
theorem dJ0_isLatin1_aae02_0 : decode cJ0_isLatin1_aae02 0 = .ok (.getstatic 38, 3) := by decide +kernel
theorem dJ0_isLatin1_aae02_3 : decode cJ0_isLatin1_aae02 3 = .ok (.ifCond .eq 14, 3) := by decide +kernel
theorem dJ0_isLatin1_aae02_6 : decode cJ0_isLatin1_aae02 6 = .ok (.aload_n 0, 1) := by decide +kernel
theorem dJ0_isLatin1_aae02_7 : decode cJ0_isLatin1_aae02 7 = .ok (.getfield 15, 3) := by decide +kernel
theorem dJ0_isLatin1_aae02_10 : decode cJ0_isLatin1_aae02 10 = .ok (.ifCond .ne 7, 3) := by decide +kernel
theorem dJ0_isLatin1_aae02_13 : decode cJ0_isLatin1_aae02 13 = .ok (.iconst 1, 1) := by decide +kernel
theorem dJ0_isLatin1_aae02_14 : decode cJ0_isLatin1_aae02 14 = .ok (.goto 4, 3) := by decide +kernel
theorem dJ0_isLatin1_aae02_17 : decode cJ0_isLatin1_aae02 17 = .ok (.iconst 0, 1) := by decide +kernel
theorem dJ0_isLatin1_aae02_18 : decode cJ0_isLatin1_aae02 18 = .ok (.ireturn, 1) := by decide +kernel
theorem dJ0_coder_7d493_0 : decode cJ0_coder_7d493 0 = .ok (.getstatic 38, 3) := by decide +kernel
theorem dJ0_coder_7d493_3 : decode cJ0_coder_7d493 3 = .ok (.ifCond .eq 10, 3) := by decide +kernel
theorem dJ0_coder_7d493_6 : decode cJ0_coder_7d493 6 = .ok (.aload_n 0, 1) := by decide +kernel
theorem dJ0_coder_7d493_7 : decode cJ0_coder_7d493 7 = .ok (.getfield 15, 3) := by decide +kernel
theorem dJ0_coder_7d493_10 : decode cJ0_coder_7d493 10 = .ok (.goto 4, 3) := by decide +kernel
theorem dJ0_coder_7d493_13 : decode cJ0_coder_7d493 13 = .ok (.iconst 1, 1) := by decide +kernel
theorem dJ0_coder_7d493_14 : decode cJ0_coder_7d493 14 = .ok (.ireturn, 1) := by decide +kernel
theorem dJ0_length_8abf5_0 : decode cJ0_length_8abf5 0 = .ok (.aload_n 0, 1) := by decide +kernel
theorem dJ0_length_8abf5_1 : decode cJ0_length_8abf5 1 = .ok (.getfield 9, 3) := by decide +kernel
theorem dJ0_length_8abf5_4 : decode cJ0_length_8abf5 4 = .ok (.arraylength, 1) := by decide +kernel
theorem dJ0_length_8abf5_5 : decode cJ0_length_8abf5 5 = .ok (.aload_n 0, 1) := by decide +kernel
theorem dJ0_length_8abf5_6 : decode cJ0_length_8abf5 6 = .ok (.invokevirtual 335, 3) := by decide +kernel
theorem dJ0_length_8abf5_9 : decode cJ0_length_8abf5 9 = .ok (.ishr, 1) := by decide +kernel
theorem dJ0_length_8abf5_10 : decode cJ0_length_8abf5 10 = .ok (.ireturn, 1) := by decide +kernel
theorem dJ0_charAt_5068e_0 : decode cJ0_charAt_5068e 0 = .ok (.aload_n 0, 1) := by decide +kernel
theorem dJ0_charAt_5068e_1 : decode cJ0_charAt_5068e 1 = .ok (.invokevirtual 492, 3) := by decide +kernel
theorem dJ0_charAt_5068e_4 : decode cJ0_charAt_5068e 4 = .ok (.ifCond .eq 12, 3) := by decide +kernel
theorem dJ0_charAt_5068e_7 : decode cJ0_charAt_5068e 7 = .ok (.aload_n 0, 1) := by decide +kernel
theorem dJ0_charAt_5068e_8 : decode cJ0_charAt_5068e 8 = .ok (.getfield 9, 3) := by decide +kernel
theorem dJ0_charAt_5068e_11 : decode cJ0_charAt_5068e 11 = .ok (.iload_n 1, 1) := by decide +kernel
theorem dJ0_charAt_5068e_12 : decode cJ0_charAt_5068e 12 = .ok (.invokestatic 495, 3) := by decide +kernel
theorem dJ0_charAt_5068e_15 : decode cJ0_charAt_5068e 15 = .ok (.ireturn, 1) := by decide +kernel
theorem dJ0_charAt_5068e_16 : decode cJ0_charAt_5068e 16 = .ok (.aload_n 0, 1) := by decide +kernel
theorem dJ0_charAt_5068e_17 : decode cJ0_charAt_5068e 17 = .ok (.getfield 9, 3) := by decide +kernel
theorem dJ0_charAt_5068e_20 : decode cJ0_charAt_5068e 20 = .ok (.iload_n 1, 1) := by decide +kernel
theorem dJ0_charAt_5068e_21 : decode cJ0_charAt_5068e 21 = .ok (.invokestatic 498, 3) := by decide +kernel
theorem dJ0_charAt_5068e_24 : decode cJ0_charAt_5068e 24 = .ok (.ireturn, 1) := by decide +kernel
theorem dJ0_indexOf_0f7a4_0 : decode cJ0_indexOf_0f7a4 0 = .ok (.aload_n 0, 1) := by decide +kernel
theorem dJ0_indexOf_0f7a4_1 : decode cJ0_indexOf_0f7a4 1 = .ok (.iload_n 1, 1) := by decide +kernel
theorem dJ0_indexOf_0f7a4_2 : decode cJ0_indexOf_0f7a4 2 = .ok (.iconst 0, 1) := by decide +kernel
theorem dJ0_indexOf_0f7a4_3 : decode cJ0_indexOf_0f7a4 3 = .ok (.invokevirtual 633, 3) := by decide +kernel
theorem dJ0_indexOf_0f7a4_6 : decode cJ0_indexOf_0f7a4 6 = .ok (.ireturn, 1) := by decide +kernel
theorem dJ0_indexOf_7cf53_0 : decode cJ0_indexOf_7cf53 0 = .ok (.aload_n 0, 1) := by decide +kernel
theorem dJ0_indexOf_7cf53_1 : decode cJ0_indexOf_7cf53 1 = .ok (.invokevirtual 492, 3) := by decide +kernel
theorem dJ0_indexOf_7cf53_4 : decode cJ0_indexOf_7cf53 4 = .ok (.ifCond .eq 19, 3) := by decide +kernel
theorem dJ0_indexOf_7cf53_7 : decode cJ0_indexOf_7cf53 7 = .ok (.aload_n 0, 1) := by decide +kernel
theorem dJ0_indexOf_7cf53_8 : decode cJ0_indexOf_7cf53 8 = .ok (.getfield 9, 3) := by decide +kernel
theorem dJ0_indexOf_7cf53_11 : decode cJ0_indexOf_7cf53 11 = .ok (.iload_n 1, 1) := by decide +kernel
theorem dJ0_indexOf_7cf53_12 : decode cJ0_indexOf_7cf53 12 = .ok (.iload_n 2, 1) := by decide +kernel
theorem dJ0_indexOf_7cf53_13 : decode cJ0_indexOf_7cf53 13 = .ok (.aload_n 0, 1) := by decide +kernel
theorem dJ0_indexOf_7cf53_14 : decode cJ0_indexOf_7cf53 14 = .ok (.invokevirtual 505, 3) := by decide +kernel
theorem dJ0_indexOf_7cf53_17 : decode cJ0_indexOf_7cf53 17 = .ok (.invokestatic 637, 3) := by decide +kernel
theorem dJ0_indexOf_7cf53_20 : decode cJ0_indexOf_7cf53 20 = .ok (.goto 16, 3) := by decide +kernel
theorem dJ0_indexOf_7cf53_23 : decode cJ0_indexOf_7cf53 23 = .ok (.aload_n 0, 1) := by decide +kernel
theorem dJ0_indexOf_7cf53_24 : decode cJ0_indexOf_7cf53 24 = .ok (.getfield 9, 3) := by decide +kernel
theorem dJ0_indexOf_7cf53_27 : decode cJ0_indexOf_7cf53 27 = .ok (.iload_n 1, 1) := by decide +kernel
theorem dJ0_indexOf_7cf53_28 : decode cJ0_indexOf_7cf53 28 = .ok (.iload_n 2, 1) := by decide +kernel
theorem dJ0_indexOf_7cf53_29 : decode cJ0_indexOf_7cf53 29 = .ok (.aload_n 0, 1) := by decide +kernel
theorem dJ0_indexOf_7cf53_30 : decode cJ0_indexOf_7cf53 30 = .ok (.invokevirtual 505, 3) := by decide +kernel
theorem dJ0_indexOf_7cf53_33 : decode cJ0_indexOf_7cf53 33 = .ok (.invokestatic 640, 3) := by decide +kernel
theorem dJ0_indexOf_7cf53_36 : decode cJ0_indexOf_7cf53 36 = .ok (.ireturn, 1) := by decide +kernel
theorem dJ0_checkIndex_df160_0 : decode cJ0_checkIndex_df160 0 = .ok (.iload_n 0, 1) := by decide +kernel
theorem dJ0_checkIndex_df160_1 : decode cJ0_checkIndex_df160 1 = .ok (.iload_n 1, 1) := by decide +kernel
theorem dJ0_checkIndex_df160_2 : decode cJ0_checkIndex_df160 2 = .ok (.getstatic 1053, 3) := by decide +kernel
theorem dJ0_checkIndex_df160_5 : decode cJ0_checkIndex_df160 5 = .ok (.invokestatic 1059, 3) := by decide +kernel
theorem dJ0_checkIndex_df160_8 : decode cJ0_checkIndex_df160 8 = .ok (.pop, 1) := by decide +kernel
theorem dJ0_checkIndex_df160_9 : decode cJ0_checkIndex_df160 9 = .ok (.return_, 1) := by decide +kernel
theorem dJ1_charAt_3b067_0 : decode cJ1_charAt_3b067 0 = .ok (.iload_n 1, 1) := by decide +kernel
theorem dJ1_charAt_3b067_1 : decode cJ1_charAt_3b067 1 = .ok (.aload_n 0, 1) := by decide +kernel
theorem dJ1_charAt_3b067_2 : decode cJ1_charAt_3b067 2 = .ok (.arraylength, 1) := by decide +kernel
theorem dJ1_charAt_3b067_3 : decode cJ1_charAt_3b067 3 = .ok (.invokestatic 9, 3) := by decide +kernel
theorem dJ1_charAt_3b067_6 : decode cJ1_charAt_3b067 6 = .ok (.aload_n 0, 1) := by decide +kernel
theorem dJ1_charAt_3b067_7 : decode cJ1_charAt_3b067 7 = .ok (.iload_n 1, 1) := by decide +kernel
theorem dJ1_charAt_3b067_8 : decode cJ1_charAt_3b067 8 = .ok (.baload, 1) := by decide +kernel
theorem dJ1_charAt_3b067_9 : decode cJ1_charAt_3b067 9 = .ok (.sipush 255, 3) := by decide +kernel
theorem dJ1_charAt_3b067_12 : decode cJ1_charAt_3b067 12 = .ok (.iand, 1) := by decide +kernel
theorem dJ1_charAt_3b067_13 : decode cJ1_charAt_3b067 13 = .ok (.i2c, 1) := by decide +kernel
theorem dJ1_charAt_3b067_14 : decode cJ1_charAt_3b067 14 = .ok (.ireturn, 1) := by decide +kernel
theorem dJ1_canEncode_9a6ad_0 : decode cJ1_canEncode_9a6ad 0 = .ok (.iload_n 0, 1) := by decide +kernel
theorem dJ1_canEncode_9a6ad_1 : decode cJ1_canEncode_9a6ad 1 = .ok (.ifCond .lt 14, 3) := by decide +kernel
theorem dJ1_canEncode_9a6ad_4 : decode cJ1_canEncode_9a6ad 4 = .ok (.iload_n 0, 1) := by decide +kernel
theorem dJ1_canEncode_9a6ad_5 : decode cJ1_canEncode_9a6ad 5 = .ok (.sipush 255, 3) := by decide +kernel
theorem dJ1_canEncode_9a6ad_8 : decode cJ1_canEncode_9a6ad 8 = .ok (.if_icmp .gt 7, 3) := by decide +kernel
theorem dJ1_canEncode_9a6ad_11 : decode cJ1_canEncode_9a6ad 11 = .ok (.iconst 1, 1) := by decide +kernel
theorem dJ1_canEncode_9a6ad_12 : decode cJ1_canEncode_9a6ad 12 = .ok (.goto 4, 3) := by decide +kernel
theorem dJ1_canEncode_9a6ad_15 : decode cJ1_canEncode_9a6ad 15 = .ok (.iconst 0, 1) := by decide +kernel
theorem dJ1_canEncode_9a6ad_16 : decode cJ1_canEncode_9a6ad 16 = .ok (.ireturn, 1) := by decide +kernel
theorem dJ1_indexOf_4cfef_0 : decode cJ1_indexOf_4cfef 0 = .ok (.iload_n 1, 1) := by decide +kernel
theorem dJ1_indexOf_4cfef_1 : decode cJ1_indexOf_4cfef 1 = .ok (.invokestatic 88, 3) := by decide +kernel
theorem dJ1_indexOf_4cfef_4 : decode cJ1_indexOf_4cfef 4 = .ok (.ifCond .ne 5, 3) := by decide +kernel
theorem dJ1_indexOf_4cfef_7 : decode cJ1_indexOf_4cfef 7 = .ok (.iconst (-1), 1) := by decide +kernel
theorem dJ1_indexOf_4cfef_8 : decode cJ1_indexOf_4cfef 8 = .ok (.ireturn, 1) := by decide +kernel
theorem dJ1_indexOf_4cfef_9 : decode cJ1_indexOf_4cfef 9 = .ok (.iload_n 2, 1) := by decide +kernel
theorem dJ1_indexOf_4cfef_10 : decode cJ1_indexOf_4cfef 10 = .ok (.iconst 0, 1) := by decide +kernel
theorem dJ1_indexOf_4cfef_11 : decode cJ1_indexOf_4cfef 11 = .ok (.invokestatic 92, 3) := by decide +kernel
theorem dJ1_indexOf_4cfef_14 : decode cJ1_indexOf_4cfef 14 = .ok (.istore_n 2, 1) := by decide +kernel
theorem dJ1_indexOf_4cfef_15 : decode cJ1_indexOf_4cfef 15 = .ok (.iload_n 3, 1) := by decide +kernel
theorem dJ1_indexOf_4cfef_16 : decode cJ1_indexOf_4cfef 16 = .ok (.aload_n 0, 1) := by decide +kernel
theorem dJ1_indexOf_4cfef_17 : decode cJ1_indexOf_4cfef 17 = .ok (.arraylength, 1) := by decide +kernel
theorem dJ1_indexOf_4cfef_18 : decode cJ1_indexOf_4cfef 18 = .ok (.invokestatic 38, 3) := by decide +kernel
theorem dJ1_indexOf_4cfef_21 : decode cJ1_indexOf_4cfef 21 = .ok (.istore_n 3, 1) := by decide +kernel
theorem dJ1_indexOf_4cfef_22 : decode cJ1_indexOf_4cfef 22 = .ok (.iload_n 2, 1) := by decide +kernel
theorem dJ1_indexOf_4cfef_23 : decode cJ1_indexOf_4cfef 23 = .ok (.iload_n 3, 1) := by decide +kernel
theorem dJ1_indexOf_4cfef_24 : decode cJ1_indexOf_4cfef 24 = .ok (.if_icmp .lt 5, 3) := by decide +kernel
theorem dJ1_indexOf_4cfef_27 : decode cJ1_indexOf_4cfef 27 = .ok (.iconst (-1), 1) := by decide +kernel
theorem dJ1_indexOf_4cfef_28 : decode cJ1_indexOf_4cfef 28 = .ok (.ireturn, 1) := by decide +kernel
theorem dJ1_indexOf_4cfef_29 : decode cJ1_indexOf_4cfef 29 = .ok (.aload_n 0, 1) := by decide +kernel
theorem dJ1_indexOf_4cfef_30 : decode cJ1_indexOf_4cfef 30 = .ok (.iload_n 1, 1) := by decide +kernel
theorem dJ1_indexOf_4cfef_31 : decode cJ1_indexOf_4cfef 31 = .ok (.iload_n 2, 1) := by decide +kernel
theorem dJ1_indexOf_4cfef_32 : decode cJ1_indexOf_4cfef 32 = .ok (.iload_n 3, 1) := by decide +kernel
theorem dJ1_indexOf_4cfef_33 : decode cJ1_indexOf_4cfef 33 = .ok (.invokestatic 95, 3) := by decide +kernel
theorem dJ1_indexOf_4cfef_36 : decode cJ1_indexOf_4cfef 36 = .ok (.ireturn, 1) := by decide +kernel
theorem dJ1_indexOfChar_4cfef_0 : decode cJ1_indexOfChar_4cfef 0 = .ok (.iload_n 1, 1) := by decide +kernel
theorem dJ1_indexOfChar_4cfef_1 : decode cJ1_indexOfChar_4cfef 1 = .ok (.i2b, 1) := by decide +kernel
theorem dJ1_indexOfChar_4cfef_2 : decode cJ1_indexOfChar_4cfef 2 = .ok (.istore 4, 2) := by decide +kernel
theorem dJ1_indexOfChar_4cfef_4 : decode cJ1_indexOfChar_4cfef 4 = .ok (.iload_n 2, 1) := by decide +kernel
theorem dJ1_indexOfChar_4cfef_5 : decode cJ1_indexOfChar_4cfef 5 = .ok (.istore 5, 2) := by decide +kernel
theorem dJ1_indexOfChar_4cfef_7 : decode cJ1_indexOfChar_4cfef 7 = .ok (.iload 5, 2) := by decide +kernel
theorem dJ1_indexOfChar_4cfef_9 : decode cJ1_indexOfChar_4cfef 9 = .ok (.iload_n 3, 1) := by decide +kernel
theorem dJ1_indexOfChar_4cfef_10 : decode cJ1_indexOfChar_4cfef 10 = .ok (.if_icmp .ge 21, 3) := by decide +kernel
theorem dJ1_indexOfChar_4cfef_13 : decode cJ1_indexOfChar_4cfef 13 = .ok (.aload_n 0, 1) := by decide +kernel
theorem dJ1_indexOfChar_4cfef_14 : decode cJ1_indexOfChar_4cfef 14 = .ok (.iload 5, 2) := by decide +kernel
theorem dJ1_indexOfChar_4cfef_16 : decode cJ1_indexOfChar_4cfef 16 = .ok (.baload, 1) := by decide +kernel
theorem dJ1_indexOfChar_4cfef_17 : decode cJ1_indexOfChar_4cfef 17 = .ok (.iload 4, 2) := by decide +kernel
theorem dJ1_indexOfChar_4cfef_19 : decode cJ1_indexOfChar_4cfef 19 = .ok (.if_icmp .ne 6, 3) := by decide +kernel
theorem dJ1_indexOfChar_4cfef_22 : decode cJ1_indexOfChar_4cfef 22 = .ok (.iload 5, 2) := by decide +kernel
theorem dJ1_indexOfChar_4cfef_24 : decode cJ1_indexOfChar_4cfef 24 = .ok (.ireturn, 1) := by decide +kernel
theorem dJ1_indexOfChar_4cfef_25 : decode cJ1_indexOfChar_4cfef 25 = .ok (.iinc 5 1, 3) := by decide +kernel
theorem dJ1_indexOfChar_4cfef_28 : decode cJ1_indexOfChar_4cfef 28 = .ok (.goto (-21), 3) := by decide +kernel
theorem dJ1_indexOfChar_4cfef_31 : decode cJ1_indexOfChar_4cfef 31 = .ok (.iconst (-1), 1) := by decide +kernel
theorem dJ1_indexOfChar_4cfef_32 : decode cJ1_indexOfChar_4cfef 32 = .ok (.ireturn, 1) := by decide +kernel
theorem dJ3_checkIndex_8e157_0 : decode cJ3_checkIndex_8e157 0 = .ok (.iload_n 0, 1) := by decide +kernel
theorem dJ3_checkIndex_8e157_1 : decode cJ3_checkIndex_8e157 1 = .ok (.ifCond .lt 8, 3) := by decide +kernel
theorem dJ3_checkIndex_8e157_4 : decode cJ3_checkIndex_8e157 4 = .ok (.iload_n 0, 1) := by decide +kernel
theorem dJ3_checkIndex_8e157_5 : decode cJ3_checkIndex_8e157 5 = .ok (.iload_n 1, 1) := by decide +kernel
theorem dJ3_checkIndex_8e157_6 : decode cJ3_checkIndex_8e157 6 = .ok (.if_icmp .lt 10, 3) := by decide +kernel
theorem dJ3_checkIndex_8e157_9 : decode cJ3_checkIndex_8e157 9 = .ok (.aload_n 2, 1) := by decide +kernel
theorem dJ3_checkIndex_8e157_10 : decode cJ3_checkIndex_8e157 10 = .ok (.iload_n 0, 1) := by decide +kernel
theorem dJ3_checkIndex_8e157_11 : decode cJ3_checkIndex_8e157 11 = .ok (.iload_n 1, 1) := by decide +kernel
theorem dJ3_checkIndex_8e157_12 : decode cJ3_checkIndex_8e157 12 = .ok (.invokestatic 95, 3) := by decide +kernel
theorem dJ3_checkIndex_8e157_15 : decode cJ3_checkIndex_8e157 15 = .ok (.athrow, 1) := by decide +kernel
theorem dJ3_checkIndex_8e157_16 : decode cJ3_checkIndex_8e157 16 = .ok (.iload_n 0, 1) := by decide +kernel
theorem dJ3_checkIndex_8e157_17 : decode cJ3_checkIndex_8e157 17 = .ok (.ireturn, 1) := by decide +kernel
theorem dJ6_bitCount_0f7a4_0 : decode cJ6_bitCount_0f7a4 0 = .ok (.iload_n 0, 1) := by decide +kernel
theorem dJ6_bitCount_0f7a4_1 : decode cJ6_bitCount_0f7a4 1 = .ok (.iload_n 0, 1) := by decide +kernel
theorem dJ6_bitCount_0f7a4_2 : decode cJ6_bitCount_0f7a4 2 = .ok (.iconst 1, 1) := by decide +kernel
theorem dJ6_bitCount_0f7a4_3 : decode cJ6_bitCount_0f7a4 3 = .ok (.iushr, 1) := by decide +kernel
theorem dJ6_bitCount_0f7a4_4 : decode cJ6_bitCount_0f7a4 4 = .ok (.ldc_w 265, 3) := by decide +kernel
theorem dJ6_bitCount_0f7a4_7 : decode cJ6_bitCount_0f7a4 7 = .ok (.iand, 1) := by decide +kernel
theorem dJ6_bitCount_0f7a4_8 : decode cJ6_bitCount_0f7a4 8 = .ok (.isub, 1) := by decide +kernel
theorem dJ6_bitCount_0f7a4_9 : decode cJ6_bitCount_0f7a4 9 = .ok (.istore_n 0, 1) := by decide +kernel
theorem dJ6_bitCount_0f7a4_10 : decode cJ6_bitCount_0f7a4 10 = .ok (.iload_n 0, 1) := by decide +kernel
theorem dJ6_bitCount_0f7a4_11 : decode cJ6_bitCount_0f7a4 11 = .ok (.ldc_w 266, 3) := by decide +kernel
theorem dJ6_bitCount_0f7a4_14 : decode cJ6_bitCount_0f7a4 14 = .ok (.iand, 1) := by decide +kernel
theorem dJ6_bitCount_0f7a4_15 : decode cJ6_bitCount_0f7a4 15 = .ok (.iload_n 0, 1) := by decide +kernel
theorem dJ6_bitCount_0f7a4_16 : decode cJ6_bitCount_0f7a4 16 = .ok (.iconst 2, 1) := by decide +kernel
theorem dJ6_bitCount_0f7a4_17 : decode cJ6_bitCount_0f7a4 17 = .ok (.iushr, 1) := by decide +kernel
theorem dJ6_bitCount_0f7a4_18 : decode cJ6_bitCount_0f7a4 18 = .ok (.ldc_w 266, 3) := by decide +kernel
theorem dJ6_bitCount_0f7a4_21 : decode cJ6_bitCount_0f7a4 21 = .ok (.iand, 1) := by decide +kernel
theorem dJ6_bitCount_0f7a4_22 : decode cJ6_bitCount_0f7a4 22 = .ok (.iadd, 1) := by decide +kernel
theorem dJ6_bitCount_0f7a4_23 : decode cJ6_bitCount_0f7a4 23 = .ok (.istore_n 0, 1) := by decide +kernel
theorem dJ6_bitCount_0f7a4_24 : decode cJ6_bitCount_0f7a4 24 = .ok (.iload_n 0, 1) := by decide +kernel
theorem dJ6_bitCount_0f7a4_25 : decode cJ6_bitCount_0f7a4 25 = .ok (.iload_n 0, 1) := by decide +kernel
theorem dJ6_bitCount_0f7a4_26 : decode cJ6_bitCount_0f7a4 26 = .ok (.iconst 4, 1) := by decide +kernel
theorem dJ6_bitCount_0f7a4_27 : decode cJ6_bitCount_0f7a4 27 = .ok (.iushr, 1) := by decide +kernel
theorem dJ6_bitCount_0f7a4_28 : decode cJ6_bitCount_0f7a4 28 = .ok (.iadd, 1) := by decide +kernel
theorem dJ6_bitCount_0f7a4_29 : decode cJ6_bitCount_0f7a4 29 = .ok (.ldc_w 267, 3) := by decide +kernel
theorem dJ6_bitCount_0f7a4_32 : decode cJ6_bitCount_0f7a4 32 = .ok (.iand, 1) := by decide +kernel
theorem dJ6_bitCount_0f7a4_33 : decode cJ6_bitCount_0f7a4 33 = .ok (.istore_n 0, 1) := by decide +kernel
theorem dJ6_bitCount_0f7a4_34 : decode cJ6_bitCount_0f7a4 34 = .ok (.iload_n 0, 1) := by decide +kernel
theorem dJ6_bitCount_0f7a4_35 : decode cJ6_bitCount_0f7a4 35 = .ok (.iload_n 0, 1) := by decide +kernel
theorem dJ6_bitCount_0f7a4_36 : decode cJ6_bitCount_0f7a4 36 = .ok (.bipush 8, 2) := by decide +kernel
theorem dJ6_bitCount_0f7a4_38 : decode cJ6_bitCount_0f7a4 38 = .ok (.iushr, 1) := by decide +kernel
theorem dJ6_bitCount_0f7a4_39 : decode cJ6_bitCount_0f7a4 39 = .ok (.iadd, 1) := by decide +kernel
theorem dJ6_bitCount_0f7a4_40 : decode cJ6_bitCount_0f7a4 40 = .ok (.istore_n 0, 1) := by decide +kernel
theorem dJ6_bitCount_0f7a4_41 : decode cJ6_bitCount_0f7a4 41 = .ok (.iload_n 0, 1) := by decide +kernel
theorem dJ6_bitCount_0f7a4_42 : decode cJ6_bitCount_0f7a4 42 = .ok (.iload_n 0, 1) := by decide +kernel
theorem dJ6_bitCount_0f7a4_43 : decode cJ6_bitCount_0f7a4 43 = .ok (.bipush 16, 2) := by decide +kernel
theorem dJ6_bitCount_0f7a4_45 : decode cJ6_bitCount_0f7a4 45 = .ok (.iushr, 1) := by decide +kernel
theorem dJ6_bitCount_0f7a4_46 : decode cJ6_bitCount_0f7a4 46 = .ok (.iadd, 1) := by decide +kernel
theorem dJ6_bitCount_0f7a4_47 : decode cJ6_bitCount_0f7a4 47 = .ok (.istore_n 0, 1) := by decide +kernel
theorem dJ6_bitCount_0f7a4_48 : decode cJ6_bitCount_0f7a4 48 = .ok (.iload_n 0, 1) := by decide +kernel
theorem dJ6_bitCount_0f7a4_49 : decode cJ6_bitCount_0f7a4 49 = .ok (.bipush 63, 2) := by decide +kernel
theorem dJ6_bitCount_0f7a4_51 : decode cJ6_bitCount_0f7a4 51 = .ok (.iand, 1) := by decide +kernel
theorem dJ6_bitCount_0f7a4_52 : decode cJ6_bitCount_0f7a4 52 = .ok (.ireturn, 1) := by decide +kernel
/-! strings and statics that a reader needs -/
abbrev lenZ : List Nat := [128, 11]
def bytZ : List (List Int32) := [[109, 101, 109, 98, 101, 114, 32, 32, 115, 112, 97, 114, 101, 32, 32, 32, 107, 101, 121, 32, 32, 32, 32, 32, 115, 108, 111, 119, 32, 32, 32, 32, 99, 111, 112, 121, 32, 32, 32, 32, 108, 111, 115, 115, 32, 32, 32, 32, 100, 114, 97, 119, 32, 32, 32, 32, 102, 114, 111, 109, 32, 32, 32, 32, 116, 111, 32, 32, 32, 32, 32, 32, 119, 114, 105, 116, 101, 32, 32, 32, 117, 110, 100, 101, 114, 32, 32, 32, 98, 97, 99, 107, 32, 32, 32, 32, 116, 105, 99, 107, 32, 32, 32, 32, 111, 114, 32, 32, 32, 32, 32, 32, 97, 110, 100, 32, 32, 32, 32, 32, 110, 111, 116, 32, 32, 32, 32, 32], [59, 40, 41, 60, 62, 61, 43, 45, 42, 47, 37]]
abbrev tx_w : String := "member  spare   key     slow    copy    loss    draw    from    to      write   under   back    tick    or      and     not     "
abbrev tx_s : String := ";()<>=+-*/%"
theorem vpL {x : Int32} {n N : Nat} (h : n = N) (hi : vp_in x N) : vp_in x n := by rw [h]; exact hi
def ZS (adK adV : Nat → Nat) (A : Nat → Prop) (U : State) (H : Heap) : Prop := vk_S 2 lenZ bytZ adK adV A U H ∧ va_Z "java/lang/String" "COMPACT_STRINGS" "Z" (.int 1) A U H ∧ va_Zq "jdk/internal/util/Preconditions" "SIOOBE_FORMATTER" "Ljava/util/function/BiFunction;" A U H ∧ vk_R RX2 191 tx_w (adK 0) U ∧ vk_R RX2 179 tx_s (adK 1) U
theorem ZS.go {adK adV : Nat → Nat} {A B : Nat → Prop} {s U : State} {H H0 : Heap} (h : ZS adK adV A s H0) (hq : ∀ a : Nat, a < H0.size → ¬ A a → H[a]? = H0[a]?) (hAB : ∀ q, B q → A q) (hW : s.WarmedH U.vm) : ZS adK adV B U H := ⟨((h.1.kept hq).narrow hAB).moved hW.alike, ((h.2.1.kept hq).narrow hAB).moved hW.alike, ((h.2.2.1.kept hq).narrow hAB).moved hW.alike, h.2.2.2.1.warm hW, h.2.2.2.2.warm hW⟩
theorem ZS.same {adK adV : Nat → Nat} {A : Nat → Prop} {u U : State} {H : Heap} (hv : U.vm = u.vm) (h : ZS adK adV A u H) : ZS adK adV A U H := ⟨h.1.moved (by rw [hv]; exact Vm.Alike.refl _), h.2.1.moved (by rw [hv]; exact Vm.Alike.refl _), h.2.2.1.moved (by rw [hv]; exact Vm.Alike.refl _), h.2.2.2.1.same hv, h.2.2.2.2.same hv⟩
/-- a start where they are known -/
def cBZ (D : va_G) (tys : List (ClassId × FieldType)) (adK adV : Nat → Nat) (ws : va_W) (sz : Nat) (U : State) : Prop := cB D tys ws sz U ∧ ZS adK adV (va_A ws sz) U U.heap
theorem cBZ.blind {D : va_G} {tys : List (ClassId × FieldType)} {adK adV : Nat → Nat} {ws : va_W} {sz : Nat} {av : List Value} : FrameBlind (va_Pc av (cBZ D tys adK adV ws sz)) := fun a U g mk q => ⟨q.1, ⟨q.2.1.1, q.2.1.2.1, ⟨va_K.moved (u := U) (U := U.calling g mk a) (Vm.Alike.refl U.vm) q.2.1.2.2.1.1, q.2.1.2.2.1.2.same rfl⟩, q.2.1.2.2.2⟩, ZS.same (u := U) (U := U.calling g mk a) rfl q.2.2⟩
section GZ
variable {s : State} {H : Heap} {locs : List Loc} {A : Nat → Prop} {D : va_G} {tys : List (ClassId × FieldType)} {ws wc : va_W} {adK adV : Nat → Nat}
theorem g_preVZ (hZ : ZS adK adV A s s.heap) (hS : va_S A s.heap H locs) (hA : ∀ q, s.heap.size ≤ q → A q) (hKN : KN D tys s) (hP : va_P D vwCl ws H) (hD : va_D A ws) (isC : List Nat) (hC : isC.map (fun i => ws[i]?) = wc.map some) (hn : va_nd isC = true) (q0 ci : Nat) {b N : Nat} {C : String} {T : u_T} {fs As : List Value} (he : wc[q0]? = some (b, .inr (ci, fs))) (hc : vwCl[ci]? = some (C, T, N)) : PreV s H C b (va_Pc (.ref b :: As) (cBZ D tys adK adV wc H.size)) As :=
  ⟨cBZ.blind, va_recv hKN.1 (g_sub hP hC) hc he, fun U hU hW => ⟨rfl, ⟨by rw [hU], by rw [hU]; exact g_sub hP hC, hKN.warm hW, (hD.sub isC hn hC).weaken (fun _ _ _ _ => trivial)⟩, by rw [hU]; exact hZ.go hS.2.1 (va_free hD hS hA isC hC) hW⟩⟩
theorem g_preSZ (hZ : ZS adK adV A s s.heap) (hS : va_S A s.heap H locs) (hA : ∀ q, s.heap.size ≤ q → A q) (hKN : KN D tys s) (hP : va_P D vwCl ws H) (hD : va_D A ws) (isC : List Nat) (hC : isC.map (fun i => ws[i]?) = wc.map some) (hn : va_nd isC = true) {As : List Value} : PreS s H (va_Pc As (cBZ D tys adK adV wc H.size)) As :=
  ⟨cBZ.blind, fun U hU hW => ⟨rfl, ⟨by rw [hU], by rw [hU]; exact g_sub hP hC, hKN.warm hW, (hD.sub isC hn hC).weaken (fun _ _ _ _ => trivial)⟩, by rw [hU]; exact hZ.go hS.2.1 (va_free hD hS hA isC hC) hW⟩⟩
/-- a string's method -/
theorem g_preVS (hZ : ZS adK adV A s s.heap) (hS : va_S A s.heap H locs) (hA : ∀ q, s.heap.size ≤ q → A q) (hKN : KN D tys s) (hP : va_P D vwCl ws H) (hD : va_D A ws) (i : Nat) (hi : i < 2) {As : List Value} : PreV s H RJ0 (adK i) (va_Pc (.ref (adK i) :: As) (cBZ D tys adK adV [] H.size)) As :=
  ⟨cBZ.blind, vk_recv hZ.1 hi hS, fun U hU hW => ⟨rfl, ⟨by rw [hU], by rw [hU]; exact g_sub hP (isC := []) rfl, hKN.warm hW, (hD.sub [] rfl rfl).weaken (fun _ _ _ _ => trivial)⟩, by rw [hU]; exact hZ.go hS.2.1 (va_free hD hS hA [] rfl) hW⟩⟩
end GZ
theorem nch (v : Int32) (h0 : 0 ≤ v.toInt) (h1 : v.toInt < 65536) : narrow .char (.int v) = .int v := by
  have e := lg_i2c_word h0 h1
  show Value.int ((v.toUInt32 % 65536).toInt32) = .int v
  rw [e]
theorem ti_i2c {v z : Int32} (e : z = (v.toUInt32 % 65536).toInt32) (h0 : 0 ≤ v.toInt) (h1 : v.toInt < 65536) : z.toInt = v.toInt := by rw [e, lg_i2c_word h0 h1]
def wo_j_isLatin1_0 : List Cond := [.fieldLink RJ0 38 "java/lang/String" "COMPACT_STRINGS" "Z", .fieldLink RJ0 15 "java/lang/String" "coder" "B"]
def wq_j_isLatin1_0 : List Cond := .code yJ0_isLatin1_aae02 cJ0_isLatin1_aae02 1 (some .boolean) :: (wo_j_isLatin1_0 ++ [])
theorem gd_j_isLatin1_0 : Gd wq_j_isLatin1_0 := gd_c (gd_a (gd_o (by decide +kernel)) gd_0)
abbrev wc_j_isLatin1_0 (cyB cyI cyJ cyZ cyO : ClassId) : va_W := []
set_option maxHeartbeats 4000000 in
set_option maxRecDepth 100000 in
theorem j_isLatin1_0 (l : Launch) (dC : Nat → ClassId) (dI : Nat → Nat → Nat) (cyB cyI cyJ cyZ cyO : ClassId) (adK adV : Nat → Nat) (sz : Nat) : Met l yJ0_isLatin1_aae02 wq_j_isLatin1_0 ({ frames := 0, cells := 0, slots := 0, locals := 0 }) (va_Pc [.ref (adK 0)] (cBZ (dC, dI) (kT cyB cyI cyJ cyZ cyO) adK adV (wc_j_isLatin1_0 cyB cyI cyJ cyZ cyO) sz)) (va_Qi (fun (r : Int32) (u : Unit) => (((r = 1)))) (fun (u : Unit) t => cE (dC, dI) (va_A (wc_j_isLatin1_0 cyB cyI cyJ cyZ cyO) sz) ([]) t.heap) (va_A (wc_j_isLatin1_0 cyB cyI cyJ cyZ cyO) sz)) 0 0 (va_A (wc_j_isLatin1_0 cyB cyI cyJ cyZ cyO) sz) := by
  refine Met.ofW (cc := cJ0_isLatin1_aae02) (maxL := 1) (ret := (some .boolean)) (by decide) rfl ?_
  intro p e s m args below meth c s₁ B hml hv
  obtain ⟨rfl, ⟨hsz, hP, hKN, hD0⟩, hZ⟩ := hv
  have hx := B.exec
  have hb := B.bytes
  have hr := B.returns
  have hts := atoms_spec (ws := wq_j_isLatin1_0) B.pre
  have hown : s.vm.findClass RJ0 = some m.cls := findClass_of_methodNamed B.named
  have hlocks := B.notSynchronized
  have hK := hKN.1
  have hfix : CallFix p m c cJ0_isLatin1_aae02 1 s [.ref (adK 0)].toArray wq_j_isLatin1_0 RJ0 := ⟨hx, hb, hml, hown, hts⟩
  subst hsz
  have hD := hD0.self (sz := s.heap.size)
  generalize hAe : va_A (wc_j_isLatin1_0 cyB cyI cyJ cyZ cyO) s.heap.size = A at hD hZ ⊢
  have hA : ∀ q : Nat, s.heap.size ≤ q → A q := fun q h => by rw [← hAe]; exact Or.inr h
  have hS : va_S A s.heap s.heap [] := va_S.rf
  have hl := lv_entry ([.ref (adK 0)]) (n := 1) (Nat.le_of_ble_eq_true rfl)
  rw [lg_entry_eq]
  generalize (lg_sl ([.ref (adK 0)]) ++ List.replicate (1 - (lg_sl ([.ref (adK 0)])).length) Slot.unset).toArray = ls at hl ⊢
  have hl : lv_has ls 1 [(0, .ref (adK 0))] := hl
  refine va_gets (v := .int 1) hx hb hZ.2.1 hS hown (hts _ (ow_m (k := 0) rfl)) (fun _ h9 => h9) dJ0_isLatin1_aae02_0 ?_
  refine lv_if_eq (tgt := 17) hx hb dJ0_isLatin1_aae02_3 (by decide) (fun c51826 => absurd c51826 (by decide)) (fun _ => ?_)
  refine lv_aload_n hx hb dJ0_isLatin1_aae02_6 rfl (lv_at hl 0 rfl) ?_
  refine vk_getf (v := .int 0) hx hb (hZ.1.1 0 (by decide)).2.1 hS hown (hts _ (ow_m (k := 1) rfl)) (fun _ h9 => h9) dJ0_isLatin1_aae02_7 ?_
  refine lv_if_ne (tgt := 17) hx hb dJ0_isLatin1_aae02_10 (by decide) (fun c51827 => absurd (by decide) c51827) (fun _ => ?_)
  refine lv_iconst (v := 1) hx hb dJ0_isLatin1_aae02_13 (by decide) ?_
  refine lv_goto (tgt := 18) hx hb dJ0_isLatin1_aae02_14 (by decide) ?_
  exact W.zret (v := 1) hx hb hr (by decide) (fun t ht hW => ⟨⟨1, (), rfl, rfl, cE.of ht hP hD [] (by decide) rfl⟩, hS.F ht⟩) hS.2.2 dJ0_isLatin1_aae02_18
def wo_j_isLatin1_1 : List Cond := [.fieldLink RJ0 38 "java/lang/String" "COMPACT_STRINGS" "Z", .fieldLink RJ0 15 "java/lang/String" "coder" "B"]
def wq_j_isLatin1_1 : List Cond := .code yJ0_isLatin1_aae02 cJ0_isLatin1_aae02 1 (some .boolean) :: (wo_j_isLatin1_1 ++ [])
theorem gd_j_isLatin1_1 : Gd wq_j_isLatin1_1 := gd_c (gd_a (gd_o (by decide +kernel)) gd_0)
abbrev wc_j_isLatin1_1 (cyB cyI cyJ cyZ cyO : ClassId) : va_W := []
set_option maxHeartbeats 4000000 in
set_option maxRecDepth 100000 in
theorem j_isLatin1_1 (l : Launch) (dC : Nat → ClassId) (dI : Nat → Nat → Nat) (cyB cyI cyJ cyZ cyO : ClassId) (adK adV : Nat → Nat) (sz : Nat) : Met l yJ0_isLatin1_aae02 wq_j_isLatin1_1 ({ frames := 0, cells := 0, slots := 0, locals := 0 }) (va_Pc [.ref (adK 1)] (cBZ (dC, dI) (kT cyB cyI cyJ cyZ cyO) adK adV (wc_j_isLatin1_1 cyB cyI cyJ cyZ cyO) sz)) (va_Qi (fun (r : Int32) (u : Unit) => (((r = 1)))) (fun (u : Unit) t => cE (dC, dI) (va_A (wc_j_isLatin1_1 cyB cyI cyJ cyZ cyO) sz) ([]) t.heap) (va_A (wc_j_isLatin1_1 cyB cyI cyJ cyZ cyO) sz)) 0 0 (va_A (wc_j_isLatin1_1 cyB cyI cyJ cyZ cyO) sz) := by
  refine Met.ofW (cc := cJ0_isLatin1_aae02) (maxL := 1) (ret := (some .boolean)) (by decide) rfl ?_
  intro p e s m args below meth c s₁ B hml hv
  obtain ⟨rfl, ⟨hsz, hP, hKN, hD0⟩, hZ⟩ := hv
  have hx := B.exec
  have hb := B.bytes
  have hr := B.returns
  have hts := atoms_spec (ws := wq_j_isLatin1_1) B.pre
  have hown : s.vm.findClass RJ0 = some m.cls := findClass_of_methodNamed B.named
  have hlocks := B.notSynchronized
  have hK := hKN.1
  have hfix : CallFix p m c cJ0_isLatin1_aae02 1 s [.ref (adK 1)].toArray wq_j_isLatin1_1 RJ0 := ⟨hx, hb, hml, hown, hts⟩
  subst hsz
  have hD := hD0.self (sz := s.heap.size)
  generalize hAe : va_A (wc_j_isLatin1_1 cyB cyI cyJ cyZ cyO) s.heap.size = A at hD hZ ⊢
  have hA : ∀ q : Nat, s.heap.size ≤ q → A q := fun q h => by rw [← hAe]; exact Or.inr h
  have hS : va_S A s.heap s.heap [] := va_S.rf
  have hl := lv_entry ([.ref (adK 1)]) (n := 1) (Nat.le_of_ble_eq_true rfl)
  rw [lg_entry_eq]
  generalize (lg_sl ([.ref (adK 1)]) ++ List.replicate (1 - (lg_sl ([.ref (adK 1)])).length) Slot.unset).toArray = ls at hl ⊢
  have hl : lv_has ls 1 [(0, .ref (adK 1))] := hl
  refine va_gets (v := .int 1) hx hb hZ.2.1 hS hown (hts _ (ow_m (k := 0) rfl)) (fun _ h9 => h9) dJ0_isLatin1_aae02_0 ?_
  refine lv_if_eq (tgt := 17) hx hb dJ0_isLatin1_aae02_3 (by decide) (fun c51830 => absurd c51830 (by decide)) (fun _ => ?_)
  refine lv_aload_n hx hb dJ0_isLatin1_aae02_6 rfl (lv_at hl 0 rfl) ?_
  refine vk_getf (v := .int 0) hx hb (hZ.1.1 1 (by decide)).2.1 hS hown (hts _ (ow_m (k := 1) rfl)) (fun _ h9 => h9) dJ0_isLatin1_aae02_7 ?_
  refine lv_if_ne (tgt := 17) hx hb dJ0_isLatin1_aae02_10 (by decide) (fun c51831 => absurd (by decide) c51831) (fun _ => ?_)
  refine lv_iconst (v := 1) hx hb dJ0_isLatin1_aae02_13 (by decide) ?_
  refine lv_goto (tgt := 18) hx hb dJ0_isLatin1_aae02_14 (by decide) ?_
  exact W.zret (v := 1) hx hb hr (by decide) (fun t ht hW => ⟨⟨1, (), rfl, rfl, cE.of ht hP hD [] (by decide) rfl⟩, hS.F ht⟩) hS.2.2 dJ0_isLatin1_aae02_18
def wo_j_pciN : List Cond := []
def wq_j_pciN : List Cond := .code yJ3_checkIndex_8e157 cJ3_checkIndex_8e157 3 (some .int) :: (wo_j_pciN ++ [])
theorem gd_j_pciN : Gd wq_j_pciN := gd_c (gd_a (gd_o (by decide +kernel)) gd_0)
abbrev wc_j_pciN (cyB cyI cyJ cyZ cyO : ClassId) (x0 : Int32) (x1 : Int32) : va_W := []
set_option maxHeartbeats 4000000 in
set_option maxRecDepth 100000 in
theorem j_pciN (l : Launch) (dC : Nat → ClassId) (dI : Nat → Nat → Nat) (cyB cyI cyJ cyZ cyO : ClassId) (x0 : Int32) (x1 : Int32) (sz : Nat) (l_x0 : 0 ≤ x0.toInt) (u_x0 : x0.toInt ≤ 127) (h01 : x0.toInt < x1.toInt) : Met l yJ3_checkIndex_8e157 wq_j_pciN ({ frames := 0, cells := 0, slots := 0, locals := 0 }) (va_Pc [.int x0, .int x1, .null] (cB (dC, dI) (kT cyB cyI cyJ cyZ cyO) (wc_j_pciN cyB cyI cyJ cyZ cyO x0 x1) sz)) (va_Qi (fun (r : Int32) (u : Unit) => (0 ≤ r.toInt) ∧ (r.toInt ≤ 127)) (fun (u : Unit) t => cE (dC, dI) (va_A (wc_j_pciN cyB cyI cyJ cyZ cyO x0 x1) sz) ([]) t.heap) (va_A (wc_j_pciN cyB cyI cyJ cyZ cyO x0 x1) sz)) 0 0 (va_A (wc_j_pciN cyB cyI cyJ cyZ cyO x0 x1) sz) := by
  refine Met.ofW (cc := cJ3_checkIndex_8e157) (maxL := 3) (ret := (some .int)) (by decide) rfl ?_
  intro p e s m args below meth c s₁ B hml hv
  obtain ⟨rfl, hsz, hP, hKN, hD0⟩ := hv
  have hx := B.exec
  have hb := B.bytes
  have hr := B.returns
  have hts := atoms_spec (ws := wq_j_pciN) B.pre
  have hown : s.vm.findClass RJ3 = some m.cls := findClass_of_methodNamed B.named
  have hlocks := B.notSynchronized
  have hK := hKN.1
  have hfix : CallFix p m c cJ3_checkIndex_8e157 3 s [.int x0, .int x1, .null].toArray wq_j_pciN RJ3 := ⟨hx, hb, hml, hown, hts⟩
  subst hsz
  have hD := hD0.self (sz := s.heap.size)
  generalize hAe : va_A (wc_j_pciN cyB cyI cyJ cyZ cyO x0 x1) s.heap.size = A at hD ⊢
  have hA : ∀ q : Nat, s.heap.size ≤ q → A q := fun q h => by rw [← hAe]; exact Or.inr h
  have hS : va_S A s.heap s.heap [] := va_S.rf
  have hl := lv_entry ([.int x0, .int x1, .null]) (n := 3) (Nat.le_of_ble_eq_true rfl)
  rw [lg_entry_eq]
  generalize (lg_sl ([.int x0, .int x1, .null]) ++ List.replicate (3 - (lg_sl ([.int x0, .int x1, .null])).length) Slot.unset).toArray = ls at hl ⊢
  have hl : lv_has ls 3 [(0, .int x0), (1, .int x1), (2, .null)] := hl
  refine lv_iload_n hx hb dJ3_checkIndex_8e157_0 rfl (lv_at hl 0 rfl) ?_
  refine lv_if_lt (tgt := 9) hx hb dJ3_checkIndex_8e157_1 (by decide) (fun c51834 => ?_) (fun c51834 => ?_)
  · have c51834 := i_lt (a := x0.toInt) (b := 0) c51834 rfl (by decide)
    exfalso; omega
  · have c51834 := i_nlt (a := x0.toInt) (b := 0) c51834 rfl (by decide)
    refine lv_iload_n hx hb dJ3_checkIndex_8e157_4 rfl (lv_at hl 0 rfl) ?_
    refine lv_iload_n hx hb dJ3_checkIndex_8e157_5 rfl (lv_at hl 1 rfl) ?_
    refine lv_icmp_lt (tgt := 16) hx hb dJ3_checkIndex_8e157_6 (by decide) (fun c51835 => ?_) (fun c51835 => ?_)
    · have c51835 := i_lt (a := x0.toInt) (b := x1.toInt) c51835 rfl rfl
      refine lv_iload_n hx hb dJ3_checkIndex_8e157_16 rfl (lv_at hl 0 rfl) ?_
      have w51836 : 0 ≤ x0.toInt := by first | omega | assumption | rfl | (intros; rfl)
      have w51837 : x0.toInt ≤ 127 := by first | omega | assumption | rfl | (intros; rfl)
      exact W.iret (v := x0) hx hb hr (fun t ht hW => ⟨⟨x0, (), rfl, ⟨w51836, w51837⟩, cE.of ht hP hD [] (by decide) rfl⟩, hS.F ht⟩) hS.2.2 dJ3_checkIndex_8e157_17
    · have c51835 := i_nlt (a := x0.toInt) (b := x1.toInt) c51835 rfl rfl
      exfalso; omega
def wo_j_pciR : List Cond := []
def wq_j_pciR : List Cond := .code yJ3_checkIndex_8e157 cJ3_checkIndex_8e157 3 (some .int) :: (wo_j_pciR ++ [])
theorem gd_j_pciR : Gd wq_j_pciR := gd_c (gd_a (gd_o (by decide +kernel)) gd_0)
abbrev wc_j_pciR (cyB cyI cyJ cyZ cyO : ClassId) (x0 : Int32) (x1 : Int32) (tf : Nat) (tf : Nat) : va_W := []
set_option maxHeartbeats 4000000 in
set_option maxRecDepth 100000 in
theorem j_pciR (l : Launch) (dC : Nat → ClassId) (dI : Nat → Nat → Nat) (cyB cyI cyJ cyZ cyO : ClassId) (x0 : Int32) (x1 : Int32) (tf : Nat) (tf : Nat) (sz : Nat) (l_x0 : 0 ≤ x0.toInt) (u_x0 : x0.toInt ≤ 127) (h01 : x0.toInt < x1.toInt) : Met l yJ3_checkIndex_8e157 wq_j_pciR ({ frames := 0, cells := 0, slots := 0, locals := 0 }) (va_Pc [.int x0, .int x1, .ref tf] (cB (dC, dI) (kT cyB cyI cyJ cyZ cyO) (wc_j_pciR cyB cyI cyJ cyZ cyO x0 x1 tf tf) sz)) (va_Qi (fun (r : Int32) (u : Unit) => (0 ≤ r.toInt) ∧ (r.toInt ≤ 127)) (fun (u : Unit) t => cE (dC, dI) (va_A (wc_j_pciR cyB cyI cyJ cyZ cyO x0 x1 tf tf) sz) ([]) t.heap) (va_A (wc_j_pciR cyB cyI cyJ cyZ cyO x0 x1 tf tf) sz)) 0 0 (va_A (wc_j_pciR cyB cyI cyJ cyZ cyO x0 x1 tf tf) sz) := by
  refine Met.ofW (cc := cJ3_checkIndex_8e157) (maxL := 3) (ret := (some .int)) (by decide) rfl ?_
  intro p e s m args below meth c s₁ B hml hv
  obtain ⟨rfl, hsz, hP, hKN, hD0⟩ := hv
  have hx := B.exec
  have hb := B.bytes
  have hr := B.returns
  have hts := atoms_spec (ws := wq_j_pciR) B.pre
  have hown : s.vm.findClass RJ3 = some m.cls := findClass_of_methodNamed B.named
  have hlocks := B.notSynchronized
  have hK := hKN.1
  have hfix : CallFix p m c cJ3_checkIndex_8e157 3 s [.int x0, .int x1, .ref tf].toArray wq_j_pciR RJ3 := ⟨hx, hb, hml, hown, hts⟩
  subst hsz
  have hD := hD0.self (sz := s.heap.size)
  generalize hAe : va_A (wc_j_pciR cyB cyI cyJ cyZ cyO x0 x1 tf tf) s.heap.size = A at hD ⊢
  have hA : ∀ q : Nat, s.heap.size ≤ q → A q := fun q h => by rw [← hAe]; exact Or.inr h
  have hS : va_S A s.heap s.heap [] := va_S.rf
  have hl := lv_entry ([.int x0, .int x1, .ref tf]) (n := 3) (Nat.le_of_ble_eq_true rfl)
  rw [lg_entry_eq]
  generalize (lg_sl ([.int x0, .int x1, .ref tf]) ++ List.replicate (3 - (lg_sl ([.int x0, .int x1, .ref tf])).length) Slot.unset).toArray = ls at hl ⊢
  have hl : lv_has ls 3 [(0, .int x0), (1, .int x1), (2, .ref tf)] := hl
  refine lv_iload_n hx hb dJ3_checkIndex_8e157_0 rfl (lv_at hl 0 rfl) ?_
  refine lv_if_lt (tgt := 9) hx hb dJ3_checkIndex_8e157_1 (by decide) (fun c51840 => ?_) (fun c51840 => ?_)
  · have c51840 := i_lt (a := x0.toInt) (b := 0) c51840 rfl (by decide)
    exfalso; omega
  · have c51840 := i_nlt (a := x0.toInt) (b := 0) c51840 rfl (by decide)
    refine lv_iload_n hx hb dJ3_checkIndex_8e157_4 rfl (lv_at hl 0 rfl) ?_
    refine lv_iload_n hx hb dJ3_checkIndex_8e157_5 rfl (lv_at hl 1 rfl) ?_
    refine lv_icmp_lt (tgt := 16) hx hb dJ3_checkIndex_8e157_6 (by decide) (fun c51841 => ?_) (fun c51841 => ?_)
    · have c51841 := i_lt (a := x0.toInt) (b := x1.toInt) c51841 rfl rfl
      refine lv_iload_n hx hb dJ3_checkIndex_8e157_16 rfl (lv_at hl 0 rfl) ?_
      have w51842 : 0 ≤ x0.toInt := by first | omega | assumption | rfl | (intros; rfl)
      have w51843 : x0.toInt ≤ 127 := by first | omega | assumption | rfl | (intros; rfl)
      exact W.iret (v := x0) hx hb hr (fun t ht hW => ⟨⟨x0, (), rfl, ⟨w51842, w51843⟩, cE.of ht hP hD [] (by decide) rfl⟩, hS.F ht⟩) hS.2.2 dJ3_checkIndex_8e157_17
    · have c51841 := i_nlt (a := x0.toInt) (b := x1.toInt) c51841 rfl rfl
      exfalso; omega
def wo_j_sci : List Cond := [.fieldLink RJ0 1053 "jdk/internal/util/Preconditions" "SIOOBE_FORMATTER" "Ljava/util/function/BiFunction;", .methodLink RJ0 1059 yJ3_checkIndex_8e157, .static yJ3_checkIndex_8e157, .initialized RJ3]
def wq_j_sci : List Cond := .code yJ0_checkIndex_df160 cJ0_checkIndex_df160 2 none :: (wo_j_sci ++ (wq_j_pciN ++ (wq_j_pciR ++ [])))
theorem gd_j_sci : Gd wq_j_sci := gd_c (gd_a (gd_o (by decide +kernel)) (gd_a gd_j_pciN (gd_a gd_j_pciR gd_0)))
abbrev wc_j_sci (cyB cyI cyJ cyZ cyO : ClassId) (x0 : Int32) (x1 : Int32) : va_W := []
set_option maxHeartbeats 4000000 in
set_option maxRecDepth 100000 in
theorem j_sci (l : Launch) (dC : Nat → ClassId) (dI : Nat → Nat → Nat) (cyB cyI cyJ cyZ cyO : ClassId) (adK adV : Nat → Nat) (x0 : Int32) (x1 : Int32) (sz : Nat) (l_x0 : 0 ≤ x0.toInt) (u_x0 : x0.toInt ≤ 127) (h01 : x0.toInt < x1.toInt) : Met l yJ0_checkIndex_df160 wq_j_sci ({ frames := 1, cells := 0, slots := 0, locals := 22 }) (va_Pc [.int x0, .int x1] (cBZ (dC, dI) (kT cyB cyI cyJ cyZ cyO) adK adV (wc_j_sci cyB cyI cyJ cyZ cyO x0 x1) sz)) (va_Qv (fun (u : Unit) => True) (fun (u : Unit) t => cE (dC, dI) (va_A (wc_j_sci cyB cyI cyJ cyZ cyO x0 x1) sz) ([]) t.heap) (va_A (wc_j_sci cyB cyI cyJ cyZ cyO x0 x1) sz)) 0 0 (va_A (wc_j_sci cyB cyI cyJ cyZ cyO x0 x1) sz) := by
  refine Met.ofW (cc := cJ0_checkIndex_df160) (maxL := 2) (ret := none) (by decide) rfl ?_
  intro p e s m args below meth c s₁ B hml hv
  obtain ⟨rfl, ⟨hsz, hP, hKN, hD0⟩, hZ⟩ := hv
  have hx := B.exec
  have hb := B.bytes
  have hr := B.returns
  have hts := atoms_spec (ws := wq_j_sci) B.pre
  have hown : s.vm.findClass RJ0 = some m.cls := findClass_of_methodNamed B.named
  have hlocks := B.notSynchronized
  have hK := hKN.1
  have hfix : CallFix p m c cJ0_checkIndex_df160 2 s [.int x0, .int x1].toArray wq_j_sci RJ0 := ⟨hx, hb, hml, hown, hts⟩
  subst hsz
  have hD := hD0.self (sz := s.heap.size)
  generalize hAe : va_A (wc_j_sci cyB cyI cyJ cyZ cyO x0 x1) s.heap.size = A at hD hZ ⊢
  have hA : ∀ q : Nat, s.heap.size ≤ q → A q := fun q h => by rw [← hAe]; exact Or.inr h
  have hS : va_S A s.heap s.heap [] := va_S.rf
  have hl := lv_entry ([.int x0, .int x1]) (n := 2) (Nat.le_of_ble_eq_true rfl)
  rw [lg_entry_eq]
  generalize (lg_sl ([.int x0, .int x1]) ++ List.replicate (2 - (lg_sl ([.int x0, .int x1])).length) Slot.unset).toArray = ls at hl ⊢
  have hl : lv_has ls 2 [(0, .int x0), (1, .int x1)] := hl
  refine lv_iload_n hx hb dJ0_checkIndex_df160_0 rfl (lv_at hl 0 rfl) ?_
  refine lv_iload_n hx hb dJ0_checkIndex_df160_1 rfl (lv_at hl 1 rfl) ?_
  rcases hZ.2.2.1 with hq9 | ⟨tq, hq9⟩
  · refine va_gets (v := .null) hx hb hq9 hS hown (hts _ (ow_m (k := 0) rfl)) (fun _ h9 => h9) dJ0_checkIndex_df160_2 ?_
    refine gf_i (wr := []) (va_runS (As := [.int x0, .int x1, .null]) (rest := []) hfix (j_pciN l dC dI cyB cyI cyJ cyZ cyO x0 x1 _ (by first | omega | assumption) (by first | omega | assumption) (by first | omega | assumption)) (va_cwS 3 hts (gi_S (ow_m (k := 1) rfl) (ow_m (k := 2) rfl) (ow_m (k := 3) rfl) (sb_c sb_l) gd_j_pciN) rfl rfl rfl (by decide +kernel) ⟨Nat.le_of_ble_eq_true rfl, Nat.le_of_ble_eq_true rfl⟩) (g_preS hKN hP hD [] rfl (by decide)) rfl rfl hl.1 rfl (lv_room (Nat.le_of_ble_eq_true rfl)) dJ0_checkIndex_df160_5 ⟨Nat.le_of_ble_eq_true rfl, Nat.le_of_ble_eq_true rfl⟩) hP hD hS hA [] [] rfl rfl (by decide) (by decide) (fun r51852 u51853 H locs qu51853 hP hD hS => ?_)
    have hP : va_P (dC, dI) vwCl [] H := hP
    have hD : va_D A [] := hD
    obtain ⟨b51854, b51855⟩ := qu51853
    refine lv_pop hx hb dJ0_checkIndex_df160_8 rfl ?_
    exact W.vret hx hb hr (fun t ht hW => ⟨⟨(), rfl, trivial, cE.of ht hP hD [] (by decide) rfl⟩, hS.F ht⟩) hS.2.2 dJ0_checkIndex_df160_9
  · refine va_gets (v := .ref tq) hx hb hq9 hS hown (hts _ (ow_m (k := 0) rfl)) (fun _ h9 => h9) dJ0_checkIndex_df160_2 ?_
    refine gf_i (wr := []) (va_runS (As := [.int x0, .int x1, .ref tq]) (rest := []) hfix (j_pciR l dC dI cyB cyI cyJ cyZ cyO x0 x1 tq tq _ (by first | omega | assumption) (by first | omega | assumption) (by first | omega | assumption)) (va_cwS 3 hts (gi_S (ow_m (k := 1) rfl) (ow_m (k := 2) rfl) (ow_m (k := 3) rfl) (sb_c (sb_r sb_l)) gd_j_pciR) rfl rfl rfl (by decide +kernel) ⟨Nat.le_of_ble_eq_true rfl, Nat.le_of_ble_eq_true rfl⟩) (g_preS hKN hP hD [] rfl (by decide)) rfl rfl hl.1 rfl (lv_room (Nat.le_of_ble_eq_true rfl)) dJ0_checkIndex_df160_5 ⟨Nat.le_of_ble_eq_true rfl, Nat.le_of_ble_eq_true rfl⟩) hP hD hS hA [] [] rfl rfl (by decide) (by decide) (fun r51856 u51857 H locs qu51857 hP hD hS => ?_)
    have hP : va_P (dC, dI) vwCl [] H := hP
    have hD : va_D A [] := hD
    obtain ⟨b51858, b51859⟩ := qu51857
    refine lv_pop hx hb dJ0_checkIndex_df160_8 rfl ?_
    exact W.vret hx hb hr (fun t ht hW => ⟨⟨(), rfl, trivial, cE.of ht hP hD [] (by decide) rfl⟩, hS.F ht⟩) hS.2.2 dJ0_checkIndex_df160_9
def wo_j_lcharAt : List Cond := [.methodLink RJ1 9 yJ0_checkIndex_df160, .static yJ0_checkIndex_df160, .initialized RJ0]
def wq_j_lcharAt : List Cond := .code yJ1_charAt_3b067 cJ1_charAt_3b067 2 (some .char) :: (wo_j_lcharAt ++ (wq_j_sci ++ []))
theorem gd_j_lcharAt : Gd wq_j_lcharAt := gd_c (gd_a (gd_o (by decide +kernel)) (gd_a gd_j_sci gd_0))
abbrev wc_j_lcharAt (cyB cyI cyJ cyZ cyO : ClassId) (x1 : Int32) : va_W := []
set_option maxHeartbeats 4000000 in
set_option maxRecDepth 100000 in
theorem j_lcharAt (l : Launch) (dC : Nat → ClassId) (dI : Nat → Nat → Nat) (cyB cyI cyJ cyZ cyO : ClassId) (adK adV : Nat → Nat) (x1 : Int32) (sz : Nat) (l_x1 : 0 ≤ x1.toInt) (u_x1 : x1.toInt ≤ 127) : Met l yJ1_charAt_3b067 wq_j_lcharAt ({ frames := 2, cells := 0, slots := 0, locals := 43 }) (va_Pc [.ref (adV 0), .int x1] (cBZ (dC, dI) (kT cyB cyI cyJ cyZ cyO) adK adV (wc_j_lcharAt cyB cyI cyJ cyZ cyO x1) sz)) (va_Qi (fun (r : Int32) (u : Unit) => (0 ≤ r.toInt) ∧ (r.toInt ≤ 255)) (fun (u : Unit) t => cE (dC, dI) (va_A (wc_j_lcharAt cyB cyI cyJ cyZ cyO x1) sz) ([]) t.heap) (va_A (wc_j_lcharAt cyB cyI cyJ cyZ cyO x1) sz)) 0 0 (va_A (wc_j_lcharAt cyB cyI cyJ cyZ cyO x1) sz) := by
  refine Met.ofW (cc := cJ1_charAt_3b067) (maxL := 2) (ret := (some .char)) (by decide) rfl ?_
  intro p e s m args below meth c s₁ B hml hv
  obtain ⟨rfl, ⟨hsz, hP, hKN, hD0⟩, hZ⟩ := hv
  have hx := B.exec
  have hb := B.bytes
  have hr := B.returns
  have hts := atoms_spec (ws := wq_j_lcharAt) B.pre
  have hown : s.vm.findClass RJ1 = some m.cls := findClass_of_methodNamed B.named
  have hlocks := B.notSynchronized
  have hK := hKN.1
  have hfix : CallFix p m c cJ1_charAt_3b067 2 s [.ref (adV 0), .int x1].toArray wq_j_lcharAt RJ1 := ⟨hx, hb, hml, hown, hts⟩
  subst hsz
  have hD := hD0.self (sz := s.heap.size)
  generalize hAe : va_A (wc_j_lcharAt cyB cyI cyJ cyZ cyO x1) s.heap.size = A at hD hZ ⊢
  have hA : ∀ q : Nat, s.heap.size ≤ q → A q := fun q h => by rw [← hAe]; exact Or.inr h
  have hS : va_S A s.heap s.heap [] := va_S.rf
  have hl := lv_entry ([.ref (adV 0), .int x1]) (n := 2) (Nat.le_of_ble_eq_true rfl)
  rw [lg_entry_eq]
  generalize (lg_sl ([.ref (adV 0), .int x1]) ++ List.replicate (2 - (lg_sl ([.ref (adV 0), .int x1])).length) Slot.unset).toArray = ls at hl ⊢
  have hl : lv_has ls 2 [(0, .ref (adV 0)), (1, .int x1)] := hl
  have ck128 : (128 : Int32).toInt = 128 := by decide
  refine lv_iload_n hx hb dJ1_charAt_3b067_0 rfl (lv_at hl 1 rfl) ?_
  refine lv_aload_n hx hb dJ1_charAt_3b067_1 rfl (lv_at hl 0 rfl) ?_
  refine va_tlen (v := 128) hx hb (hZ.1.1 0 (by decide)).2.2.2 hS rfl dJ1_charAt_3b067_2 ?_
  refine gf_v (wr := []) (va_runS (As := [.int x1, .int 128]) (rest := []) hfix (j_sci l dC dI cyB cyI cyJ cyZ cyO adK adV x1 (128 : Int32) _ (by first | omega | assumption) (by first | omega | assumption) (by first | omega | assumption)) (va_cwS 2 hts (gi_S (ow_m (k := 0) rfl) (ow_m (k := 1) rfl) (ow_m (k := 2) rfl) (sb_c sb_l) gd_j_sci) rfl rfl rfl (by decide +kernel) ⟨Nat.le_of_ble_eq_true rfl, Nat.le_of_ble_eq_true rfl⟩) (g_preSZ hZ hS hA hKN hP hD [] rfl (by decide)) rfl rfl hl.1 rfl (lv_room (Nat.le_of_ble_eq_true rfl)) dJ1_charAt_3b067_3 ⟨Nat.le_of_ble_eq_true rfl, Nat.le_of_ble_eq_true rfl⟩) hP hD hS hA [] [] rfl rfl (by decide) (by decide) (fun u51866 H locs qu51866 hP hD hS => ?_)
  have hP : va_P (dC, dI) vwCl [] H := hP
  have hD : va_D A [] := hD
  refine lv_aload_n hx hb dJ1_charAt_3b067_6 rfl (lv_at hl 0 rfl) ?_
  refine lv_iload_n hx hb dJ1_charAt_3b067_7 rfl (lv_at hl 1 rfl) ?_
  refine va_tb (v := .int ((bytZ.getD 0 []).getD x1.toNatClampNeg 0)) hx hb (hZ.1.1 0 (by decide)).2.2.2 hS (vpL (N := 128) rfl (vp_i rfl (by omega) (by omega))) rfl dJ1_charAt_3b067_8 ?_
  refine lv_topi (fun z51867 ez51867 => ?_)
  refine lv_sipush (v := 255) hx hb dJ1_charAt_3b067_9 (by decide) ?_
  refine lv_iand hx hb dJ1_charAt_3b067_12 ?_
  refine lv_topi (fun z51868 ez51868 => ?_)
  have tz51868 := ti_and z51867 (m := 255) 8 ez51868 rfl (by decide)
  refine lv_i2c hx hb dJ1_charAt_3b067_13 rfl ?_
  refine lv_topi (fun z51869 ez51869 => ?_)
  have tz51869 := ti_i2c (v := z51868) (z := z51869) ez51869 (by omega) (by omega)
  have w51870 : 0 ≤ z51869.toInt := by first | omega | assumption | rfl | (intros; rfl)
  have w51871 : z51869.toInt ≤ 255 := by first | omega | assumption | rfl | (intros; rfl)
  exact W.zret (v := z51869) hx hb hr (nch z51869 (by omega) (by omega)) (fun t ht hW => ⟨⟨z51869, (), rfl, ⟨w51870, w51871⟩, cE.of ht hP hD [] (by decide) rfl⟩, hS.F ht⟩) hS.2.2 dJ1_charAt_3b067_14
def wo_j_charAt : List Cond := [.methodLink RJ0 492 yJ0_isLatin1_aae02, .instanceMethod yJ0_isLatin1_aae02, .selects RJ0 yJ0_isLatin1_aae02 yJ0_isLatin1_aae02, .initialized RJ0, .fieldLink RJ0 9 "java/lang/String" "value" "[B", .methodLink RJ0 495 yJ1_charAt_3b067, .static yJ1_charAt_3b067, .initialized RJ1]
def wq_j_charAt : List Cond := .code yJ0_charAt_5068e cJ0_charAt_5068e 2 (some .char) :: (wo_j_charAt ++ (wq_j_isLatin1_0 ++ (wq_j_lcharAt ++ [])))
theorem gd_j_charAt : Gd wq_j_charAt := gd_c (gd_a (gd_o (by decide +kernel)) (gd_a gd_j_isLatin1_0 (gd_a gd_j_lcharAt gd_0)))
abbrev wc_j_charAt (cyB cyI cyJ cyZ cyO : ClassId) (x1 : Int32) : va_W := []
set_option maxHeartbeats 4000000 in
set_option maxRecDepth 100000 in
theorem j_charAt (l : Launch) (dC : Nat → ClassId) (dI : Nat → Nat → Nat) (cyB cyI cyJ cyZ cyO : ClassId) (adK adV : Nat → Nat) (x1 : Int32) (sz : Nat) (l_x1 : 0 ≤ x1.toInt) (u_x1 : x1.toInt ≤ 127) : Met l yJ0_charAt_5068e wq_j_charAt ({ frames := 3, cells := 0, slots := 0, locals := 64 }) (va_Pc [.ref (adK 0), .int x1] (cBZ (dC, dI) (kT cyB cyI cyJ cyZ cyO) adK adV (wc_j_charAt cyB cyI cyJ cyZ cyO x1) sz)) (va_Qi (fun (r : Int32) (u : Unit) => (0 ≤ r.toInt) ∧ (r.toInt ≤ 255)) (fun (u : Unit) t => cE (dC, dI) (va_A (wc_j_charAt cyB cyI cyJ cyZ cyO x1) sz) ([]) t.heap) (va_A (wc_j_charAt cyB cyI cyJ cyZ cyO x1) sz)) 0 0 (va_A (wc_j_charAt cyB cyI cyJ cyZ cyO x1) sz) := by
  refine Met.ofW (cc := cJ0_charAt_5068e) (maxL := 2) (ret := (some .char)) (by decide) rfl ?_
  intro p e s m args below meth c s₁ B hml hv
  obtain ⟨rfl, ⟨hsz, hP, hKN, hD0⟩, hZ⟩ := hv
  have hx := B.exec
  have hb := B.bytes
  have hr := B.returns
  have hts := atoms_spec (ws := wq_j_charAt) B.pre
  have hown : s.vm.findClass RJ0 = some m.cls := findClass_of_methodNamed B.named
  have hlocks := B.notSynchronized
  have hK := hKN.1
  have hfix : CallFix p m c cJ0_charAt_5068e 2 s [.ref (adK 0), .int x1].toArray wq_j_charAt RJ0 := ⟨hx, hb, hml, hown, hts⟩
  subst hsz
  have hD := hD0.self (sz := s.heap.size)
  generalize hAe : va_A (wc_j_charAt cyB cyI cyJ cyZ cyO x1) s.heap.size = A at hD hZ ⊢
  have hA : ∀ q : Nat, s.heap.size ≤ q → A q := fun q h => by rw [← hAe]; exact Or.inr h
  have hS : va_S A s.heap s.heap [] := va_S.rf
  have hl := lv_entry ([.ref (adK 0), .int x1]) (n := 2) (Nat.le_of_ble_eq_true rfl)
  rw [lg_entry_eq]
  generalize (lg_sl ([.ref (adK 0), .int x1]) ++ List.replicate (2 - (lg_sl ([.ref (adK 0), .int x1])).length) Slot.unset).toArray = ls at hl ⊢
  have hl : lv_has ls 2 [(0, .ref (adK 0)), (1, .int x1)] := hl
  have ck1 : (1 : Int32).toInt = 1 := by decide
  refine lv_aload_n hx hb dJ0_charAt_5068e_0 rfl (lv_at hl 0 rfl) ?_
  refine gf_i (wr := []) (va_runV (As := []) (rest := []) hfix (j_isLatin1_0 l dC dI cyB cyI cyJ cyZ cyO adK adV _) (cwV 0 hts (gi_V (ow_m (k := 0) rfl) (ow_m (k := 1) rfl) (ow_m (k := 2) rfl) (ow_m (k := 3) rfl) (sb_c sb_l) gd_j_isLatin1_0) rfl rfl rfl (by decide +kernel) ⟨Nat.le_of_ble_eq_true rfl, Nat.le_of_ble_eq_true rfl⟩) (g_preVS hZ hS hA hKN hP hD 0 (by decide)) rfl rfl hl.1 rfl (lv_room (Nat.le_of_ble_eq_true rfl)) dJ0_charAt_5068e_1 ⟨Nat.le_of_ble_eq_true rfl, Nat.le_of_ble_eq_true rfl⟩) hP hD hS hA [] [] rfl rfl (by decide) (by decide) (fun r51879 u51880 H locs qu51880 hP hD hS => ?_)
  have hP : va_P (dC, dI) vwCl [] H := hP
  have hD : va_D A [] := hD
  have hq9 : r51879 = 1 := qu51880
  subst hq9
  refine lv_if_eq (tgt := 16) hx hb dJ0_charAt_5068e_4 (by decide) (fun c51881 => absurd c51881 (by decide)) (fun _ => ?_)
  refine lv_aload_n hx hb dJ0_charAt_5068e_7 rfl (lv_at hl 0 rfl) ?_
  refine vk_getf (v := .ref (adV 0)) hx hb (hZ.1.1 0 (by decide)).2.2.1 hS hown (hts _ (ow_m (k := 4) rfl)) (fun _ h9 => h9) dJ0_charAt_5068e_8 ?_
  refine lv_iload_n hx hb dJ0_charAt_5068e_11 rfl (lv_at hl 1 rfl) ?_
  refine gf_i (wr := []) (va_runS (As := [.ref (adV 0), .int x1]) (rest := []) hfix (j_lcharAt l dC dI cyB cyI cyJ cyZ cyO adK adV x1 _ (by first | omega | assumption) (by first | omega | assumption)) (va_cwS 2 hts (gi_S (ow_m (k := 5) rfl) (ow_m (k := 6) rfl) (ow_m (k := 7) rfl) (sb_c (sb_r sb_l)) gd_j_lcharAt) rfl rfl rfl (by decide +kernel) ⟨Nat.le_of_ble_eq_true rfl, Nat.le_of_ble_eq_true rfl⟩) (g_preSZ hZ hS hA hKN hP hD [] rfl (by decide)) rfl rfl hl.1 rfl (lv_room (Nat.le_of_ble_eq_true rfl)) dJ0_charAt_5068e_12 ⟨Nat.le_of_ble_eq_true rfl, Nat.le_of_ble_eq_true rfl⟩) hP hD hS hA [] [] rfl rfl (by decide) (by decide) (fun r51882 u51883 H locs qu51883 hP hD hS => ?_)
  have hP : va_P (dC, dI) vwCl [] H := hP
  have hD : va_D A [] := hD
  obtain ⟨b51884, b51885⟩ := qu51883
  have w51886 : 0 ≤ r51882.toInt := by first | omega | assumption | rfl | (intros; rfl)
  have w51887 : r51882.toInt ≤ 255 := by first | omega | assumption | rfl | (intros; rfl)
  exact W.zret (v := r51882) hx hb hr (nch r51882 (by omega) (by omega)) (fun t ht hW => ⟨⟨r51882, (), rfl, ⟨w51886, w51887⟩, cE.of ht hP hD [] (by decide) rfl⟩, hS.F ht⟩) hS.2.2 dJ0_charAt_5068e_15
def wo_j_coder : List Cond := [.fieldLink RJ0 38 "java/lang/String" "COMPACT_STRINGS" "Z", .fieldLink RJ0 15 "java/lang/String" "coder" "B"]
def wq_j_coder : List Cond := .code yJ0_coder_7d493 cJ0_coder_7d493 1 (some .byte) :: (wo_j_coder ++ [])
theorem gd_j_coder : Gd wq_j_coder := gd_c (gd_a (gd_o (by decide +kernel)) gd_0)
abbrev wc_j_coder (cyB cyI cyJ cyZ cyO : ClassId) : va_W := []
set_option maxHeartbeats 4000000 in
set_option maxRecDepth 100000 in
theorem j_coder (l : Launch) (dC : Nat → ClassId) (dI : Nat → Nat → Nat) (cyB cyI cyJ cyZ cyO : ClassId) (adK adV : Nat → Nat) (sz : Nat) : Met l yJ0_coder_7d493 wq_j_coder ({ frames := 0, cells := 0, slots := 0, locals := 0 }) (va_Pc [.ref (adK 1)] (cBZ (dC, dI) (kT cyB cyI cyJ cyZ cyO) adK adV (wc_j_coder cyB cyI cyJ cyZ cyO) sz)) (va_Qi (fun (r : Int32) (u : Unit) => (((r = 0)))) (fun (u : Unit) t => cE (dC, dI) (va_A (wc_j_coder cyB cyI cyJ cyZ cyO) sz) ([]) t.heap) (va_A (wc_j_coder cyB cyI cyJ cyZ cyO) sz)) 0 0 (va_A (wc_j_coder cyB cyI cyJ cyZ cyO) sz) := by
  refine Met.ofW (cc := cJ0_coder_7d493) (maxL := 1) (ret := (some .byte)) (by decide) rfl ?_
  intro p e s m args below meth c s₁ B hml hv
  obtain ⟨rfl, ⟨hsz, hP, hKN, hD0⟩, hZ⟩ := hv
  have hx := B.exec
  have hb := B.bytes
  have hr := B.returns
  have hts := atoms_spec (ws := wq_j_coder) B.pre
  have hown : s.vm.findClass RJ0 = some m.cls := findClass_of_methodNamed B.named
  have hlocks := B.notSynchronized
  have hK := hKN.1
  have hfix : CallFix p m c cJ0_coder_7d493 1 s [.ref (adK 1)].toArray wq_j_coder RJ0 := ⟨hx, hb, hml, hown, hts⟩
  subst hsz
  have hD := hD0.self (sz := s.heap.size)
  generalize hAe : va_A (wc_j_coder cyB cyI cyJ cyZ cyO) s.heap.size = A at hD hZ ⊢
  have hA : ∀ q : Nat, s.heap.size ≤ q → A q := fun q h => by rw [← hAe]; exact Or.inr h
  have hS : va_S A s.heap s.heap [] := va_S.rf
  have hl := lv_entry ([.ref (adK 1)]) (n := 1) (Nat.le_of_ble_eq_true rfl)
  rw [lg_entry_eq]
  generalize (lg_sl ([.ref (adK 1)]) ++ List.replicate (1 - (lg_sl ([.ref (adK 1)])).length) Slot.unset).toArray = ls at hl ⊢
  have hl : lv_has ls 1 [(0, .ref (adK 1))] := hl
  refine va_gets (v := .int 1) hx hb hZ.2.1 hS hown (hts _ (ow_m (k := 0) rfl)) (fun _ h9 => h9) dJ0_coder_7d493_0 ?_
  refine lv_if_eq (tgt := 13) hx hb dJ0_coder_7d493_3 (by decide) (fun c51889 => absurd c51889 (by decide)) (fun _ => ?_)
  refine lv_aload_n hx hb dJ0_coder_7d493_6 rfl (lv_at hl 0 rfl) ?_
  refine vk_getf (v := .int 0) hx hb (hZ.1.1 1 (by decide)).2.1 hS hown (hts _ (ow_m (k := 1) rfl)) (fun _ h9 => h9) dJ0_coder_7d493_7 ?_
  refine lv_goto (tgt := 14) hx hb dJ0_coder_7d493_10 (by decide) ?_
  exact W.zret (v := 0) hx hb hr (by decide) (fun t ht hW => ⟨⟨0, (), rfl, rfl, cE.of ht hP hD [] (by decide) rfl⟩, hS.F ht⟩) hS.2.2 dJ0_coder_7d493_14
def wo_j_length : List Cond := [.fieldLink RJ0 9 "java/lang/String" "value" "[B", .methodLink RJ0 335 yJ0_coder_7d493, .instanceMethod yJ0_coder_7d493, .selects RJ0 yJ0_coder_7d493 yJ0_coder_7d493, .initialized RJ0]
def wq_j_length : List Cond := .code yJ0_length_8abf5 cJ0_length_8abf5 1 (some .int) :: (wo_j_length ++ (wq_j_coder ++ []))
theorem gd_j_length : Gd wq_j_length := gd_c (gd_a (gd_o (by decide +kernel)) (gd_a gd_j_coder gd_0))
abbrev wc_j_length (cyB cyI cyJ cyZ cyO : ClassId) : va_W := []
set_option maxHeartbeats 4000000 in
set_option maxRecDepth 100000 in
theorem j_length (l : Launch) (dC : Nat → ClassId) (dI : Nat → Nat → Nat) (cyB cyI cyJ cyZ cyO : ClassId) (adK adV : Nat → Nat) (sz : Nat) : Met l yJ0_length_8abf5 wq_j_length ({ frames := 1, cells := 0, slots := 0, locals := 20 }) (va_Pc [.ref (adK 1)] (cBZ (dC, dI) (kT cyB cyI cyJ cyZ cyO) adK adV (wc_j_length cyB cyI cyJ cyZ cyO) sz)) (va_Qi (fun (r : Int32) (u : Unit) => (((r = 11)))) (fun (u : Unit) t => cE (dC, dI) (va_A (wc_j_length cyB cyI cyJ cyZ cyO) sz) ([]) t.heap) (va_A (wc_j_length cyB cyI cyJ cyZ cyO) sz)) 0 0 (va_A (wc_j_length cyB cyI cyJ cyZ cyO) sz) := by
  refine Met.ofW (cc := cJ0_length_8abf5) (maxL := 1) (ret := (some .int)) (by decide) rfl ?_
  intro p e s m args below meth c s₁ B hml hv
  obtain ⟨rfl, ⟨hsz, hP, hKN, hD0⟩, hZ⟩ := hv
  have hx := B.exec
  have hb := B.bytes
  have hr := B.returns
  have hts := atoms_spec (ws := wq_j_length) B.pre
  have hown : s.vm.findClass RJ0 = some m.cls := findClass_of_methodNamed B.named
  have hlocks := B.notSynchronized
  have hK := hKN.1
  have hfix : CallFix p m c cJ0_length_8abf5 1 s [.ref (adK 1)].toArray wq_j_length RJ0 := ⟨hx, hb, hml, hown, hts⟩
  subst hsz
  have hD := hD0.self (sz := s.heap.size)
  generalize hAe : va_A (wc_j_length cyB cyI cyJ cyZ cyO) s.heap.size = A at hD hZ ⊢
  have hA : ∀ q : Nat, s.heap.size ≤ q → A q := fun q h => by rw [← hAe]; exact Or.inr h
  have hS : va_S A s.heap s.heap [] := va_S.rf
  have hl := lv_entry ([.ref (adK 1)]) (n := 1) (Nat.le_of_ble_eq_true rfl)
  rw [lg_entry_eq]
  generalize (lg_sl ([.ref (adK 1)]) ++ List.replicate (1 - (lg_sl ([.ref (adK 1)])).length) Slot.unset).toArray = ls at hl ⊢
  have hl : lv_has ls 1 [(0, .ref (adK 1))] := hl
  have ck0 : (0 : Int32).toInt = 0 := by decide
  refine lv_aload_n hx hb dJ0_length_8abf5_0 rfl (lv_at hl 0 rfl) ?_
  refine vk_getf (v := .ref (adV 1)) hx hb (hZ.1.1 1 (by decide)).2.2.1 hS hown (hts _ (ow_m (k := 0) rfl)) (fun _ h9 => h9) dJ0_length_8abf5_1 ?_
  refine va_tlen (v := 11) hx hb (hZ.1.1 1 (by decide)).2.2.2 hS rfl dJ0_length_8abf5_4 ?_
  refine lv_aload_n hx hb dJ0_length_8abf5_5 rfl (lv_at hl 0 rfl) ?_
  refine gf_i (wr := []) (va_runV (As := []) (rest := [.int 11]) hfix (j_coder l dC dI cyB cyI cyJ cyZ cyO adK adV _) (cwV 0 hts (gi_V (ow_m (k := 1) rfl) (ow_m (k := 2) rfl) (ow_m (k := 3) rfl) (ow_m (k := 4) rfl) (sb_c sb_l) gd_j_coder) rfl rfl rfl (by decide +kernel) ⟨Nat.le_of_ble_eq_true rfl, Nat.le_of_ble_eq_true rfl⟩) (g_preVS hZ hS hA hKN hP hD 1 (by decide)) rfl rfl hl.1 rfl (lv_room (Nat.le_of_ble_eq_true rfl)) dJ0_length_8abf5_6 ⟨Nat.le_of_ble_eq_true rfl, Nat.le_of_ble_eq_true rfl⟩) hP hD hS hA [] [] rfl rfl (by decide) (by decide) (fun r51892 u51893 H locs qu51893 hP hD hS => ?_)
  have hP : va_P (dC, dI) vwCl [] H := hP
  have hD : va_D A [] := hD
  have hq9 : r51892 = 0 := qu51893
  subst hq9
  refine lv_ishr hx hb dJ0_length_8abf5_9 ?_
  refine tp_c (w := 11) (by decide) ?_
  exact W.iret (v := 11) hx hb hr (fun t ht hW => ⟨⟨11, (), rfl, rfl, cE.of ht hP hD [] (by decide) rfl⟩, hS.F ht⟩) hS.2.2 dJ0_length_8abf5_10
def wo_j_canEncode : List Cond := []
def wq_j_canEncode : List Cond := .code yJ1_canEncode_9a6ad cJ1_canEncode_9a6ad 1 (some .boolean) :: (wo_j_canEncode ++ [])
theorem gd_j_canEncode : Gd wq_j_canEncode := gd_c (gd_a (gd_o (by decide +kernel)) gd_0)
abbrev wc_j_canEncode (cyB cyI cyJ cyZ cyO : ClassId) (x0 : Int32) : va_W := []
set_option maxHeartbeats 4000000 in
set_option maxRecDepth 100000 in
theorem j_canEncode (l : Launch) (dC : Nat → ClassId) (dI : Nat → Nat → Nat) (cyB cyI cyJ cyZ cyO : ClassId) (x0 : Int32) (sz : Nat) : Met l yJ1_canEncode_9a6ad wq_j_canEncode ({ frames := 0, cells := 0, slots := 0, locals := 0 }) (va_Pc [.int x0] (cB (dC, dI) (kT cyB cyI cyJ cyZ cyO) (wc_j_canEncode cyB cyI cyJ cyZ cyO x0) sz)) (va_Qi (fun (r : Int32) (u : Unit) => (0 ≤ r.toInt) ∧ (r.toInt ≤ 1)) (fun (u : Unit) t => cE (dC, dI) (va_A (wc_j_canEncode cyB cyI cyJ cyZ cyO x0) sz) ([]) t.heap) (va_A (wc_j_canEncode cyB cyI cyJ cyZ cyO x0) sz)) 0 0 (va_A (wc_j_canEncode cyB cyI cyJ cyZ cyO x0) sz) := by
  refine Met.ofW (cc := cJ1_canEncode_9a6ad) (maxL := 1) (ret := (some .boolean)) (by decide) rfl ?_
  intro p e s m args below meth c s₁ B hml hv
  obtain ⟨rfl, hsz, hP, hKN, hD0⟩ := hv
  have hx := B.exec
  have hb := B.bytes
  have hr := B.returns
  have hts := atoms_spec (ws := wq_j_canEncode) B.pre
  have hown : s.vm.findClass RJ1 = some m.cls := findClass_of_methodNamed B.named
  have hlocks := B.notSynchronized
  have hK := hKN.1
  have hfix : CallFix p m c cJ1_canEncode_9a6ad 1 s [.int x0].toArray wq_j_canEncode RJ1 := ⟨hx, hb, hml, hown, hts⟩
  subst hsz
  have hD := hD0.self (sz := s.heap.size)
  generalize hAe : va_A (wc_j_canEncode cyB cyI cyJ cyZ cyO x0) s.heap.size = A at hD ⊢
  have hA : ∀ q : Nat, s.heap.size ≤ q → A q := fun q h => by rw [← hAe]; exact Or.inr h
  have hS : va_S A s.heap s.heap [] := va_S.rf
  have hl := lv_entry ([.int x0]) (n := 1) (Nat.le_of_ble_eq_true rfl)
  rw [lg_entry_eq]
  generalize (lg_sl ([.int x0]) ++ List.replicate (1 - (lg_sl ([.int x0])).length) Slot.unset).toArray = ls at hl ⊢
  have hl : lv_has ls 1 [(0, .int x0)] := hl
  have ck0 : (0 : Int32).toInt = 0 := by decide
  have ck1 : (1 : Int32).toInt = 1 := by decide
  refine lv_iload_n hx hb dJ1_canEncode_9a6ad_0 rfl (lv_at hl 0 rfl) ?_
  refine lv_if_lt (tgt := 15) hx hb dJ1_canEncode_9a6ad_1 (by decide) (fun c51896 => ?_) (fun c51896 => ?_)
  · have c51896 := i_lt (a := x0.toInt) (b := 0) c51896 rfl (by decide)
    refine lv_iconst (v := 0) hx hb dJ1_canEncode_9a6ad_15 (by decide) ?_
    have w51897 : 0 ≤ (0 : Int32).toInt := by first | omega | assumption | rfl | (intros; rfl)
    have w51898 : (0 : Int32).toInt ≤ 1 := by first | omega | assumption | rfl | (intros; rfl)
    exact W.zret (v := 0) hx hb hr (by decide) (fun t ht hW => ⟨⟨0, (), rfl, ⟨w51897, w51898⟩, cE.of ht hP hD [] (by decide) rfl⟩, hS.F ht⟩) hS.2.2 dJ1_canEncode_9a6ad_16
  · have c51896 := i_nlt (a := x0.toInt) (b := 0) c51896 rfl (by decide)
    refine lv_iload_n hx hb dJ1_canEncode_9a6ad_4 rfl (lv_at hl 0 rfl) ?_
    refine lv_sipush (v := 255) hx hb dJ1_canEncode_9a6ad_5 (by decide) ?_
    refine lv_icmp_gt (tgt := 15) hx hb dJ1_canEncode_9a6ad_8 (by decide) (fun c51899 => ?_) (fun c51899 => ?_)
    · have c51899 := i_lt (a := 255) (b := x0.toInt) c51899 (by decide) rfl
      refine lv_iconst (v := 0) hx hb dJ1_canEncode_9a6ad_15 (by decide) ?_
      have w51900 : 0 ≤ (0 : Int32).toInt := by first | omega | assumption | rfl | (intros; rfl)
      have w51901 : (0 : Int32).toInt ≤ 1 := by first | omega | assumption | rfl | (intros; rfl)
      exact W.zret (v := 0) hx hb hr (by decide) (fun t ht hW => ⟨⟨0, (), rfl, ⟨w51900, w51901⟩, cE.of ht hP hD [] (by decide) rfl⟩, hS.F ht⟩) hS.2.2 dJ1_canEncode_9a6ad_16
    · have c51899 := i_nlt (a := 255) (b := x0.toInt) c51899 (by decide) rfl
      refine lv_iconst (v := 1) hx hb dJ1_canEncode_9a6ad_11 (by decide) ?_
      refine lv_goto (tgt := 16) hx hb dJ1_canEncode_9a6ad_12 (by decide) ?_
      have w51902 : 0 ≤ (1 : Int32).toInt := by first | omega | assumption | rfl | (intros; rfl)
      have w51903 : (1 : Int32).toInt ≤ 1 := by first | omega | assumption | rfl | (intros; rfl)
      exact W.zret (v := 1) hx hb hr (by decide) (fun t ht hW => ⟨⟨1, (), rfl, ⟨w51902, w51903⟩, cE.of ht hP hD [] (by decide) rfl⟩, hS.F ht⟩) hS.2.2 dJ1_canEncode_9a6ad_16
def wo_j_ixc : List Cond := []
def wq_j_ixc : List Cond := .code yJ1_indexOfChar_4cfef cJ1_indexOfChar_4cfef 6 (some .int) :: (wo_j_ixc ++ [])
theorem gd_j_ixc : Gd wq_j_ixc := gd_c (gd_a (gd_o (by decide +kernel)) gd_0)
abbrev wc_j_ixc (cyB cyI cyJ cyZ cyO : ClassId) (x1 : Int32) : va_W := []
set_option maxHeartbeats 4000000 in
set_option maxRecDepth 100000 in
theorem j_ixc (l : Launch) (dC : Nat → ClassId) (dI : Nat → Nat → Nat) (cyB cyI cyJ cyZ cyO : ClassId) (adK adV : Nat → Nat) (x1 : Int32) (sz : Nat) : Met l yJ1_indexOfChar_4cfef wq_j_ixc ({ frames := 0, cells := 0, slots := 0, locals := 0 }) (va_Pc [.ref (adV 1), .int x1, .int 0, .int 11] (cBZ (dC, dI) (kT cyB cyI cyJ cyZ cyO) adK adV (wc_j_ixc cyB cyI cyJ cyZ cyO x1) sz)) (va_Qi (fun (r : Int32) (u : Unit) => (-1 ≤ r.toInt) ∧ (r.toInt ≤ 10)) (fun (u : Unit) t => cE (dC, dI) (va_A (wc_j_ixc cyB cyI cyJ cyZ cyO x1) sz) ([]) t.heap) (va_A (wc_j_ixc cyB cyI cyJ cyZ cyO x1) sz)) 0 0 (va_A (wc_j_ixc cyB cyI cyJ cyZ cyO x1) sz) := by
  refine Met.ofW (cc := cJ1_indexOfChar_4cfef) (maxL := 6) (ret := (some .int)) (by decide) rfl ?_
  intro p e s m args below meth c s₁ B hml hv
  obtain ⟨rfl, ⟨hsz, hP, hKN, hD0⟩, hZ⟩ := hv
  have hx := B.exec
  have hb := B.bytes
  have hr := B.returns
  have hts := atoms_spec (ws := wq_j_ixc) B.pre
  have hown : s.vm.findClass RJ1 = some m.cls := findClass_of_methodNamed B.named
  have hlocks := B.notSynchronized
  have hK := hKN.1
  have hfix : CallFix p m c cJ1_indexOfChar_4cfef 6 s [.ref (adV 1), .int x1, .int 0, .int 11].toArray wq_j_ixc RJ1 := ⟨hx, hb, hml, hown, hts⟩
  subst hsz
  have hD := hD0.self (sz := s.heap.size)
  generalize hAe : va_A (wc_j_ixc cyB cyI cyJ cyZ cyO x1) s.heap.size = A at hD hZ ⊢
  have hA : ∀ q : Nat, s.heap.size ≤ q → A q := fun q h => by rw [← hAe]; exact Or.inr h
  have hS : va_S A s.heap s.heap [] := va_S.rf
  have hl := lv_entry ([.ref (adV 1), .int x1, .int 0, .int 11]) (n := 6) (Nat.le_of_ble_eq_true rfl)
  rw [lg_entry_eq]
  generalize (lg_sl ([.ref (adV 1), .int x1, .int 0, .int 11]) ++ List.replicate (6 - (lg_sl ([.ref (adV 1), .int x1, .int 0, .int 11])).length) Slot.unset).toArray = ls at hl ⊢
  have hl : lv_has ls 6 [(0, .ref (adV 1)), (1, .int x1), (2, .int 0), (3, .int 11)] := hl
  have ckm1 : (-1 : Int32).toInt = -1 := by decide
  have ck0 : (0 : Int32).toInt = 0 := by decide
  refine lv_iload_n hx hb dJ1_indexOfChar_4cfef_0 rfl (lv_at hl 1 rfl) ?_
  refine lv_i2b hx hb dJ1_indexOfChar_4cfef_1 rfl ?_
  refine lv_topi (fun z52020 ez52020 => ?_)
  refine lv_istore (lv' := [(4, .int z52020), (0, .ref (adV 1)), (1, .int x1), (2, .int 0), (3, .int 11)]) hx hb dJ1_indexOfChar_4cfef_2 hl (by decide) rfl (fun ls hl => ?_)
  refine lv_iload_n hx hb dJ1_indexOfChar_4cfef_4 rfl (lv_at hl 3 rfl) ?_
  refine lv_istore (lv' := [(5, .int 0), (4, .int z52020), (0, .ref (adV 1)), (1, .int x1), (2, .int 0), (3, .int 11)]) hx hb dJ1_indexOfChar_4cfef_5 hl (by decide) rfl (fun ls hl => ?_)
  refine w_gen (fun H locs ls hP hS hl => ?_) hP hS hl
  obtain ⟨v52021, hl2, hP2, hD2, b52022, b52023⟩ : ∃ (v52021 : Int32), lv_has ls 6 [(5, .int v52021), (4, .int z52020), (0, .ref (adV 1)), (1, .int x1), (2, .int 0), (3, .int 11)] ∧ va_P (dC, dI) vwCl [] H ∧ va_D A [] ∧ (0 ≤ v52021.toInt) ∧ (v52021.toInt ≤ 11) := ⟨(0 : Int32), hl, hP, hD, by first | assumption | omega, by first | assumption | omega⟩
  clear hP hl
  have hP := hP2
  have hD := hD2
  have hl := hl2
  clear hP2 hD2 hl2
  obtain ⟨n52024, hn52024⟩ : ∃ n : Nat, 11 - v52021.toInt < (n : Int) := ⟨(11 - v52021.toInt).toNat + 1, by omega⟩
  induction n52024 generalizing v52021 H locs ls with
  | zero => exfalso; omega
  | succ n52024 ih52025 =>
    refine lv_iload hx hb dJ1_indexOfChar_4cfef_7 (lv_at hl 0 rfl) ?_
    refine lv_iload_n hx hb dJ1_indexOfChar_4cfef_9 rfl (lv_at hl 5 rfl) ?_
    refine lv_icmp_ge (tgt := 31) hx hb dJ1_indexOfChar_4cfef_10 (by decide) (fun c52026 => ?_) (fun c52026 => ?_)
    · have c52026 := i_le (a := 11) (b := v52021.toInt) c52026 (by decide) rfl
      refine lv_iconst (v := (-1)) hx hb dJ1_indexOfChar_4cfef_31 (by decide) ?_
      have w52027 : -1 ≤ (-1 : Int32).toInt := by first | omega | assumption | rfl | (intros; rfl)
      have w52028 : (-1 : Int32).toInt ≤ 10 := by first | omega | assumption | rfl | (intros; rfl)
      exact W.iret (v := (-1)) hx hb hr (fun t ht hW => ⟨⟨(-1), (), rfl, ⟨w52027, w52028⟩, cE.of ht hP hD [] (by decide) rfl⟩, hS.F ht⟩) hS.2.2 dJ1_indexOfChar_4cfef_32
    · have c52026 := i_nle (a := 11) (b := v52021.toInt) c52026 (by decide) rfl
      refine lv_aload_n hx hb dJ1_indexOfChar_4cfef_13 rfl (lv_at hl 2 rfl) ?_
      refine lv_iload hx hb dJ1_indexOfChar_4cfef_14 (lv_at hl 0 rfl) ?_
      refine va_tb (v := .int ((bytZ.getD 1 []).getD v52021.toNatClampNeg 0)) hx hb (hZ.1.1 1 (by decide)).2.2.2 hS (vpL (N := 11) rfl (vp_i rfl (by omega) (by omega))) rfl dJ1_indexOfChar_4cfef_16 ?_
      refine lv_topi (fun z52029 ez52029 => ?_)
      refine lv_iload hx hb dJ1_indexOfChar_4cfef_17 (lv_at hl 1 rfl) ?_
      refine lv_icmp_ne (tgt := 25) hx hb dJ1_indexOfChar_4cfef_19 (by decide) (fun c52030 => ?_) (fun c52030 => ?_)
      · have c52030 := i_ne (a := z52029.toInt) (b := z52020.toInt) c52030 rfl rfl
        obtain ⟨z52031, ez52031⟩ : ∃ y : Int32, y = v52021 + 1 := ⟨_, rfl⟩
        have tz52031 := ti_add (a := v52021.toInt) (b := 1) ez52031 rfl (by decide) (by omega) (by omega)
        refine lv_iinc (v := z52031) (lv' := [(5, .int z52031), (4, .int z52020), (0, .ref (adV 1)), (1, .int x1), (2, .int 0), (3, .int 11)]) hx hb dJ1_indexOfChar_4cfef_25 hl (k := 0) rfl (by rw [ez52031]; rfl) (by decide) rfl (fun ls hl => ?_)
        refine lv_goto (tgt := 7) hx hb dJ1_indexOfChar_4cfef_28 (by decide) ?_
        have hl := lv_sub (l' := [(5, .int z52031), (4, .int z52020), (0, .ref (adV 1)), (1, .int x1), (2, .int 0), (3, .int 11)]) hl [0, 1, 2, 3, 4, 5] rfl
        apply ih52025 (v52021 := z52031) (H := H) (locs := locs) (ls := ls) <;> first | assumption | omega
      · have c52030 := i_eq (a := z52029.toInt) (b := z52020.toInt) c52030 rfl rfl
        refine lv_iload hx hb dJ1_indexOfChar_4cfef_22 (lv_at hl 0 rfl) ?_
        have w52032 : -1 ≤ v52021.toInt := by first | omega | assumption | rfl | (intros; rfl)
        have w52033 : v52021.toInt ≤ 10 := by first | omega | assumption | rfl | (intros; rfl)
        exact W.iret (v := v52021) hx hb hr (fun t ht hW => ⟨⟨v52021, (), rfl, ⟨w52032, w52033⟩, cE.of ht hP hD [] (by decide) rfl⟩, hS.F ht⟩) hS.2.2 dJ1_indexOfChar_4cfef_24
def wo_j_ixl : List Cond := [.methodLink RJ1 88 yJ1_canEncode_9a6ad, .static yJ1_canEncode_9a6ad, .initialized RJ1, .methodLink RJ1 92 Lib.Math.max.name, .static Lib.Math.max.name, .initialized "java/lang/Math", .code Lib.Math.max.name Lib.Math.max.code 2 (some .int), .methodLink RJ1 38 Lib.Math.min.name, .static Lib.Math.min.name, .code Lib.Math.min.name Lib.Math.min.code 2 (some .int), .methodLink RJ1 95 yJ1_indexOfChar_4cfef, .static yJ1_indexOfChar_4cfef]
def wq_j_ixl : List Cond := .code yJ1_indexOf_4cfef cJ1_indexOf_4cfef 4 (some .int) :: (wo_j_ixl ++ (wq_j_canEncode ++ (wq_j_ixc ++ [])))
theorem gd_j_ixl : Gd wq_j_ixl := gd_c (gd_a (gd_o (by decide +kernel)) (gd_a gd_j_canEncode (gd_a gd_j_ixc gd_0)))
abbrev wc_j_ixl (cyB cyI cyJ cyZ cyO : ClassId) (x1 : Int32) : va_W := []
set_option maxHeartbeats 4000000 in
set_option maxRecDepth 100000 in
theorem j_ixl (l : Launch) (dC : Nat → ClassId) (dI : Nat → Nat → Nat) (cyB cyI cyJ cyZ cyO : ClassId) (adK adV : Nat → Nat) (x1 : Int32) (sz : Nat) : Met l yJ1_indexOf_4cfef wq_j_ixl ({ frames := 1, cells := 0, slots := 0, locals := 25 }) (va_Pc [.ref (adV 1), .int x1, .int 0, .int 11] (cBZ (dC, dI) (kT cyB cyI cyJ cyZ cyO) adK adV (wc_j_ixl cyB cyI cyJ cyZ cyO x1) sz)) (va_Qi (fun (r : Int32) (u : Unit) => (-1 ≤ r.toInt) ∧ (r.toInt ≤ 10)) (fun (u : Unit) t => cE (dC, dI) (va_A (wc_j_ixl cyB cyI cyJ cyZ cyO x1) sz) ([]) t.heap) (va_A (wc_j_ixl cyB cyI cyJ cyZ cyO x1) sz)) 0 0 (va_A (wc_j_ixl cyB cyI cyJ cyZ cyO x1) sz) := by
  refine Met.ofW (cc := cJ1_indexOf_4cfef) (maxL := 4) (ret := (some .int)) (by decide) rfl ?_
  intro p e s m args below meth c s₁ B hml hv
  obtain ⟨rfl, ⟨hsz, hP, hKN, hD0⟩, hZ⟩ := hv
  have hx := B.exec
  have hb := B.bytes
  have hr := B.returns
  have hts := atoms_spec (ws := wq_j_ixl) B.pre
  have hown : s.vm.findClass RJ1 = some m.cls := findClass_of_methodNamed B.named
  have hlocks := B.notSynchronized
  have hK := hKN.1
  have hfix : CallFix p m c cJ1_indexOf_4cfef 4 s [.ref (adV 1), .int x1, .int 0, .int 11].toArray wq_j_ixl RJ1 := ⟨hx, hb, hml, hown, hts⟩
  subst hsz
  have hD := hD0.self (sz := s.heap.size)
  generalize hAe : va_A (wc_j_ixl cyB cyI cyJ cyZ cyO x1) s.heap.size = A at hD hZ ⊢
  have hA : ∀ q : Nat, s.heap.size ≤ q → A q := fun q h => by rw [← hAe]; exact Or.inr h
  have hS : va_S A s.heap s.heap [] := va_S.rf
  have hl := lv_entry ([.ref (adV 1), .int x1, .int 0, .int 11]) (n := 4) (Nat.le_of_ble_eq_true rfl)
  rw [lg_entry_eq]
  generalize (lg_sl ([.ref (adV 1), .int x1, .int 0, .int 11]) ++ List.replicate (4 - (lg_sl ([.ref (adV 1), .int x1, .int 0, .int 11])).length) Slot.unset).toArray = ls at hl ⊢
  have hl : lv_has ls 4 [(0, .ref (adV 1)), (1, .int x1), (2, .int 0), (3, .int 11)] := hl
  have ckm1 : (-1 : Int32).toInt = -1 := by decide
  refine lv_iload_n hx hb dJ1_indexOf_4cfef_0 rfl (lv_at hl 1 rfl) ?_
  refine gf_i (wr := []) (va_runS (As := [.int x1]) (rest := []) hfix (j_canEncode l dC dI cyB cyI cyJ cyZ cyO x1 _) (va_cwS 1 hts (gi_S (ow_m (k := 0) rfl) (ow_m (k := 1) rfl) (ow_m (k := 2) rfl) (sb_c sb_l) gd_j_canEncode) rfl rfl rfl (by decide +kernel) ⟨Nat.le_of_ble_eq_true rfl, Nat.le_of_ble_eq_true rfl⟩) (g_preS hKN hP hD [] rfl (by decide)) rfl rfl hl.1 rfl (lv_room (Nat.le_of_ble_eq_true rfl)) dJ1_indexOf_4cfef_1 ⟨Nat.le_of_ble_eq_true rfl, Nat.le_of_ble_eq_true rfl⟩) hP hD hS hA [] [] rfl rfl (by decide) (by decide) (fun r52046 u52047 H locs qu52047 hP hD hS => ?_)
  have hP : va_P (dC, dI) vwCl [] H := hP
  have hD : va_D A [] := hD
  obtain ⟨b52048, b52049⟩ := qu52047
  refine lv_if_ne (tgt := 9) hx hb dJ1_indexOf_4cfef_4 (by decide) (fun c52050 => ?_) (fun c52050 => ?_)
  · have c52050 := i_ne (a := r52046.toInt) (b := 0) c52050 rfl (by decide)
    refine lv_iload_n hx hb dJ1_indexOf_4cfef_9 rfl (lv_at hl 2 rfl) ?_
    refine lv_iconst (v := 0) hx hb dJ1_indexOf_4cfef_10 (by decide) ?_
    refine va_mmax hx hb (hml.trans hl.1.symm) hown (hts _ (ow_m (k := 3) rfl)) (hts _ (ow_m (k := 4) rfl)) (hts _ (ow_m (k := 5) rfl)) (hts _ (ow_m (k := 6) rfl)) (Nat.le_of_ble_eq_true rfl) (Nat.le_of_ble_eq_true rfl) (Nat.le_of_ble_eq_true rfl) (Nat.le_of_ble_eq_true rfl) dJ1_indexOf_4cfef_11 ?_
    refine tp_c (w := 0) (by decide) ?_
    refine lv_istore_n (lv' := [(2, .int 0), (0, .ref (adV 1)), (1, .int x1), (3, .int 11)]) hx hb dJ1_indexOf_4cfef_14 rfl hl (by decide) rfl (fun ls hl => ?_)
    refine lv_iload_n hx hb dJ1_indexOf_4cfef_15 rfl (lv_at hl 3 rfl) ?_
    refine lv_aload_n hx hb dJ1_indexOf_4cfef_16 rfl (lv_at hl 1 rfl) ?_
    refine va_tlen (v := 11) hx hb (hZ.1.1 1 (by decide)).2.2.2 hS rfl dJ1_indexOf_4cfef_17 ?_
    refine va_mmin hx hb (hml.trans hl.1.symm) hown (hts _ (ow_m (k := 7) rfl)) (hts _ (ow_m (k := 8) rfl)) (hts _ (ow_m (k := 5) rfl)) (hts _ (ow_m (k := 9) rfl)) (Nat.le_of_ble_eq_true rfl) (Nat.le_of_ble_eq_true rfl) (Nat.le_of_ble_eq_true rfl) (Nat.le_of_ble_eq_true rfl) dJ1_indexOf_4cfef_18 ?_
    refine tp_c (w := 11) (by decide) ?_
    refine lv_istore_n (lv' := [(3, .int 11), (2, .int 0), (0, .ref (adV 1)), (1, .int x1)]) hx hb dJ1_indexOf_4cfef_21 rfl hl (by decide) rfl (fun ls hl => ?_)
    refine lv_iload_n hx hb dJ1_indexOf_4cfef_22 rfl (lv_at hl 1 rfl) ?_
    refine lv_iload_n hx hb dJ1_indexOf_4cfef_23 rfl (lv_at hl 0 rfl) ?_
    refine lv_icmp_lt (tgt := 29) hx hb dJ1_indexOf_4cfef_24 (by decide) (fun _ => ?_) (fun c52053 => absurd (by decide) c52053)
    refine lv_aload_n hx hb dJ1_indexOf_4cfef_29 rfl (lv_at hl 2 rfl) ?_
    refine lv_iload_n hx hb dJ1_indexOf_4cfef_30 rfl (lv_at hl 3 rfl) ?_
    refine lv_iload_n hx hb dJ1_indexOf_4cfef_31 rfl (lv_at hl 1 rfl) ?_
    refine lv_iload_n hx hb dJ1_indexOf_4cfef_32 rfl (lv_at hl 0 rfl) ?_
    refine gf_i (wr := []) (va_runS (As := [.ref (adV 1), .int x1, .int 0, .int 11]) (rest := []) hfix (j_ixc l dC dI cyB cyI cyJ cyZ cyO adK adV x1 _) (va_cwS 4 hts (gi_S (ow_m (k := 10) rfl) (ow_m (k := 11) rfl) (ow_m (k := 2) rfl) (sb_c (sb_r sb_l)) gd_j_ixc) rfl rfl rfl (by decide +kernel) ⟨Nat.le_of_ble_eq_true rfl, Nat.le_of_ble_eq_true rfl⟩) (g_preSZ hZ hS hA hKN hP hD [] rfl (by decide)) rfl rfl hl.1 rfl (lv_room (Nat.le_of_ble_eq_true rfl)) dJ1_indexOf_4cfef_33 ⟨Nat.le_of_ble_eq_true rfl, Nat.le_of_ble_eq_true rfl⟩) hP hD hS hA [] [] rfl rfl (by decide) (by decide) (fun r52054 u52055 H locs qu52055 hP hD hS => ?_)
    have hP : va_P (dC, dI) vwCl [] H := hP
    have hD : va_D A [] := hD
    obtain ⟨b52056, b52057⟩ := qu52055
    have w52058 : -1 ≤ r52054.toInt := by first | omega | assumption | rfl | (intros; rfl)
    have w52059 : r52054.toInt ≤ 10 := by first | omega | assumption | rfl | (intros; rfl)
    exact W.iret (v := r52054) hx hb hr (fun t ht hW => ⟨⟨r52054, (), rfl, ⟨w52058, w52059⟩, cE.of ht hP hD [] (by decide) rfl⟩, hS.F ht⟩) hS.2.2 dJ1_indexOf_4cfef_36
  · have c52050 := i_eq (a := r52046.toInt) (b := 0) c52050 rfl (by decide)
    refine lv_iconst (v := (-1)) hx hb dJ1_indexOf_4cfef_7 (by decide) ?_
    have w52060 : -1 ≤ (-1 : Int32).toInt := by first | omega | assumption | rfl | (intros; rfl)
    have w52061 : (-1 : Int32).toInt ≤ 10 := by first | omega | assumption | rfl | (intros; rfl)
    exact W.iret (v := (-1)) hx hb hr (fun t ht hW => ⟨⟨(-1), (), rfl, ⟨w52060, w52061⟩, cE.of ht hP hD [] (by decide) rfl⟩, hS.F ht⟩) hS.2.2 dJ1_indexOf_4cfef_8
def wo_j_ix2 : List Cond := [.methodLink RJ0 492 yJ0_isLatin1_aae02, .instanceMethod yJ0_isLatin1_aae02, .selects RJ0 yJ0_isLatin1_aae02 yJ0_isLatin1_aae02, .initialized RJ0, .fieldLink RJ0 9 "java/lang/String" "value" "[B", .methodLink RJ0 505 yJ0_length_8abf5, .instanceMethod yJ0_length_8abf5, .selects RJ0 yJ0_length_8abf5 yJ0_length_8abf5, .methodLink RJ0 637 yJ1_indexOf_4cfef, .static yJ1_indexOf_4cfef, .initialized RJ1]
def wq_j_ix2 : List Cond := .code yJ0_indexOf_7cf53 cJ0_indexOf_7cf53 3 (some .int) :: (wo_j_ix2 ++ (wq_j_isLatin1_1 ++ (wq_j_length ++ (wq_j_ixl ++ []))))
theorem gd_j_ix2 : Gd wq_j_ix2 := gd_c (gd_a (gd_o (by decide +kernel)) (gd_a gd_j_isLatin1_1 (gd_a gd_j_length (gd_a gd_j_ixl gd_0))))
abbrev wc_j_ix2 (cyB cyI cyJ cyZ cyO : ClassId) (x1 : Int32) : va_W := []
set_option maxHeartbeats 4000000 in
set_option maxRecDepth 100000 in
theorem j_ix2 (l : Launch) (dC : Nat → ClassId) (dI : Nat → Nat → Nat) (cyB cyI cyJ cyZ cyO : ClassId) (adK adV : Nat → Nat) (x1 : Int32) (sz : Nat) : Met l yJ0_indexOf_7cf53 wq_j_ix2 ({ frames := 2, cells := 0, slots := 0, locals := 48 }) (va_Pc [.ref (adK 1), .int x1, .int 0] (cBZ (dC, dI) (kT cyB cyI cyJ cyZ cyO) adK adV (wc_j_ix2 cyB cyI cyJ cyZ cyO x1) sz)) (va_Qi (fun (r : Int32) (u : Unit) => (-1 ≤ r.toInt) ∧ (r.toInt ≤ 10)) (fun (u : Unit) t => cE (dC, dI) (va_A (wc_j_ix2 cyB cyI cyJ cyZ cyO x1) sz) ([]) t.heap) (va_A (wc_j_ix2 cyB cyI cyJ cyZ cyO x1) sz)) 0 0 (va_A (wc_j_ix2 cyB cyI cyJ cyZ cyO x1) sz) := by
  refine Met.ofW (cc := cJ0_indexOf_7cf53) (maxL := 3) (ret := (some .int)) (by decide) rfl ?_
  intro p e s m args below meth c s₁ B hml hv
  obtain ⟨rfl, ⟨hsz, hP, hKN, hD0⟩, hZ⟩ := hv
  have hx := B.exec
  have hb := B.bytes
  have hr := B.returns
  have hts := atoms_spec (ws := wq_j_ix2) B.pre
  have hown : s.vm.findClass RJ0 = some m.cls := findClass_of_methodNamed B.named
  have hlocks := B.notSynchronized
  have hK := hKN.1
  have hfix : CallFix p m c cJ0_indexOf_7cf53 3 s [.ref (adK 1), .int x1, .int 0].toArray wq_j_ix2 RJ0 := ⟨hx, hb, hml, hown, hts⟩
  subst hsz
  have hD := hD0.self (sz := s.heap.size)
  generalize hAe : va_A (wc_j_ix2 cyB cyI cyJ cyZ cyO x1) s.heap.size = A at hD hZ ⊢
  have hA : ∀ q : Nat, s.heap.size ≤ q → A q := fun q h => by rw [← hAe]; exact Or.inr h
  have hS : va_S A s.heap s.heap [] := va_S.rf
  have hl := lv_entry ([.ref (adK 1), .int x1, .int 0]) (n := 3) (Nat.le_of_ble_eq_true rfl)
  rw [lg_entry_eq]
  generalize (lg_sl ([.ref (adK 1), .int x1, .int 0]) ++ List.replicate (3 - (lg_sl ([.ref (adK 1), .int x1, .int 0])).length) Slot.unset).toArray = ls at hl ⊢
  have hl : lv_has ls 3 [(0, .ref (adK 1)), (1, .int x1), (2, .int 0)] := hl
  have ck1 : (1 : Int32).toInt = 1 := by decide
  have ck11 : (11 : Int32).toInt = 11 := by decide
  refine lv_aload_n hx hb dJ0_indexOf_7cf53_0 rfl (lv_at hl 0 rfl) ?_
  refine gf_i (wr := []) (va_runV (As := []) (rest := []) hfix (j_isLatin1_1 l dC dI cyB cyI cyJ cyZ cyO adK adV _) (cwV 0 hts (gi_V (ow_m (k := 0) rfl) (ow_m (k := 1) rfl) (ow_m (k := 2) rfl) (ow_m (k := 3) rfl) (sb_c sb_l) gd_j_isLatin1_1) rfl rfl rfl (by decide +kernel) ⟨Nat.le_of_ble_eq_true rfl, Nat.le_of_ble_eq_true rfl⟩) (g_preVS hZ hS hA hKN hP hD 1 (by decide)) rfl rfl hl.1 rfl (lv_room (Nat.le_of_ble_eq_true rfl)) dJ0_indexOf_7cf53_1 ⟨Nat.le_of_ble_eq_true rfl, Nat.le_of_ble_eq_true rfl⟩) hP hD hS hA [] [] rfl rfl (by decide) (by decide) (fun r52071 u52072 H locs qu52072 hP hD hS => ?_)
  have hP : va_P (dC, dI) vwCl [] H := hP
  have hD : va_D A [] := hD
  have hq9 : r52071 = 1 := qu52072
  subst hq9
  refine lv_if_eq (tgt := 23) hx hb dJ0_indexOf_7cf53_4 (by decide) (fun c52073 => absurd c52073 (by decide)) (fun _ => ?_)
  refine lv_aload_n hx hb dJ0_indexOf_7cf53_7 rfl (lv_at hl 0 rfl) ?_
  refine vk_getf (v := .ref (adV 1)) hx hb (hZ.1.1 1 (by decide)).2.2.1 hS hown (hts _ (ow_m (k := 4) rfl)) (fun _ h9 => h9) dJ0_indexOf_7cf53_8 ?_
  refine lv_iload_n hx hb dJ0_indexOf_7cf53_11 rfl (lv_at hl 1 rfl) ?_
  refine lv_iload_n hx hb dJ0_indexOf_7cf53_12 rfl (lv_at hl 2 rfl) ?_
  refine lv_aload_n hx hb dJ0_indexOf_7cf53_13 rfl (lv_at hl 0 rfl) ?_
  refine gf_i (wr := []) (va_runV (As := []) (rest := [.int 0, .int x1, .ref (adV 1)]) hfix (j_length l dC dI cyB cyI cyJ cyZ cyO adK adV _) (cwV 0 hts (gi_V (ow_m (k := 5) rfl) (ow_m (k := 6) rfl) (ow_m (k := 7) rfl) (ow_m (k := 3) rfl) (sb_c (sb_r sb_l)) gd_j_length) rfl rfl rfl (by decide +kernel) ⟨Nat.le_of_ble_eq_true rfl, Nat.le_of_ble_eq_true rfl⟩) (g_preVS hZ hS hA hKN hP hD 1 (by decide)) rfl rfl hl.1 rfl (lv_room (Nat.le_of_ble_eq_true rfl)) dJ0_indexOf_7cf53_14 ⟨Nat.le_of_ble_eq_true rfl, Nat.le_of_ble_eq_true rfl⟩) hP hD hS hA [] [] rfl rfl (by decide) (by decide) (fun r52074 u52075 H locs qu52075 hP hD hS => ?_)
  have hP : va_P (dC, dI) vwCl [] H := hP
  have hD : va_D A [] := hD
  have hq9 : r52074 = 11 := qu52075
  subst hq9
  refine gf_i (wr := []) (va_runS (As := [.ref (adV 1), .int x1, .int 0, .int 11]) (rest := []) hfix (j_ixl l dC dI cyB cyI cyJ cyZ cyO adK adV x1 _) (va_cwS 4 hts (gi_S (ow_m (k := 8) rfl) (ow_m (k := 9) rfl) (ow_m (k := 10) rfl) (sb_c (sb_r (sb_r sb_l))) gd_j_ixl) rfl rfl rfl (by decide +kernel) ⟨Nat.le_of_ble_eq_true rfl, Nat.le_of_ble_eq_true rfl⟩) (g_preSZ hZ hS hA hKN hP hD [] rfl (by decide)) rfl rfl hl.1 rfl (lv_room (Nat.le_of_ble_eq_true rfl)) dJ0_indexOf_7cf53_17 ⟨Nat.le_of_ble_eq_true rfl, Nat.le_of_ble_eq_true rfl⟩) hP hD hS hA [] [] rfl rfl (by decide) (by decide) (fun r52076 u52077 H locs qu52077 hP hD hS => ?_)
  have hP : va_P (dC, dI) vwCl [] H := hP
  have hD : va_D A [] := hD
  obtain ⟨b52078, b52079⟩ := qu52077
  refine lv_goto (tgt := 36) hx hb dJ0_indexOf_7cf53_20 (by decide) ?_
  have w52080 : -1 ≤ r52076.toInt := by first | omega | assumption | rfl | (intros; rfl)
  have w52081 : r52076.toInt ≤ 10 := by first | omega | assumption | rfl | (intros; rfl)
  exact W.iret (v := r52076) hx hb hr (fun t ht hW => ⟨⟨r52076, (), rfl, ⟨w52080, w52081⟩, cE.of ht hP hD [] (by decide) rfl⟩, hS.F ht⟩) hS.2.2 dJ0_indexOf_7cf53_36
def wo_j_ix : List Cond := [.methodLink RJ0 633 yJ0_indexOf_7cf53, .instanceMethod yJ0_indexOf_7cf53, .selects RJ0 yJ0_indexOf_7cf53 yJ0_indexOf_7cf53, .initialized RJ0]
def wq_j_ix : List Cond := .code yJ0_indexOf_0f7a4 cJ0_indexOf_0f7a4 2 (some .int) :: (wo_j_ix ++ (wq_j_ix2 ++ []))
theorem gd_j_ix : Gd wq_j_ix := gd_c (gd_a (gd_o (by decide +kernel)) (gd_a gd_j_ix2 gd_0))
abbrev wc_j_ix (cyB cyI cyJ cyZ cyO : ClassId) (x1 : Int32) : va_W := []
set_option maxHeartbeats 4000000 in
set_option maxRecDepth 100000 in
theorem j_ix (l : Launch) (dC : Nat → ClassId) (dI : Nat → Nat → Nat) (cyB cyI cyJ cyZ cyO : ClassId) (adK adV : Nat → Nat) (x1 : Int32) (sz : Nat) : Met l yJ0_indexOf_0f7a4 wq_j_ix ({ frames := 3, cells := 0, slots := 0, locals := 70 }) (va_Pc [.ref (adK 1), .int x1] (cBZ (dC, dI) (kT cyB cyI cyJ cyZ cyO) adK adV (wc_j_ix cyB cyI cyJ cyZ cyO x1) sz)) (va_Qi (fun (r : Int32) (u : Unit) => (-1 ≤ r.toInt) ∧ (r.toInt ≤ 10)) (fun (u : Unit) t => cE (dC, dI) (va_A (wc_j_ix cyB cyI cyJ cyZ cyO x1) sz) ([]) t.heap) (va_A (wc_j_ix cyB cyI cyJ cyZ cyO x1) sz)) 0 0 (va_A (wc_j_ix cyB cyI cyJ cyZ cyO x1) sz) := by
  refine Met.ofW (cc := cJ0_indexOf_0f7a4) (maxL := 2) (ret := (some .int)) (by decide) rfl ?_
  intro p e s m args below meth c s₁ B hml hv
  obtain ⟨rfl, ⟨hsz, hP, hKN, hD0⟩, hZ⟩ := hv
  have hx := B.exec
  have hb := B.bytes
  have hr := B.returns
  have hts := atoms_spec (ws := wq_j_ix) B.pre
  have hown : s.vm.findClass RJ0 = some m.cls := findClass_of_methodNamed B.named
  have hlocks := B.notSynchronized
  have hK := hKN.1
  have hfix : CallFix p m c cJ0_indexOf_0f7a4 2 s [.ref (adK 1), .int x1].toArray wq_j_ix RJ0 := ⟨hx, hb, hml, hown, hts⟩
  subst hsz
  have hD := hD0.self (sz := s.heap.size)
  generalize hAe : va_A (wc_j_ix cyB cyI cyJ cyZ cyO x1) s.heap.size = A at hD hZ ⊢
  have hA : ∀ q : Nat, s.heap.size ≤ q → A q := fun q h => by rw [← hAe]; exact Or.inr h
  have hS : va_S A s.heap s.heap [] := va_S.rf
  have hl := lv_entry ([.ref (adK 1), .int x1]) (n := 2) (Nat.le_of_ble_eq_true rfl)
  rw [lg_entry_eq]
  generalize (lg_sl ([.ref (adK 1), .int x1]) ++ List.replicate (2 - (lg_sl ([.ref (adK 1), .int x1])).length) Slot.unset).toArray = ls at hl ⊢
  have hl : lv_has ls 2 [(0, .ref (adK 1)), (1, .int x1)] := hl
  refine lv_aload_n hx hb dJ0_indexOf_0f7a4_0 rfl (lv_at hl 0 rfl) ?_
  refine lv_iload_n hx hb dJ0_indexOf_0f7a4_1 rfl (lv_at hl 1 rfl) ?_
  refine lv_iconst (v := 0) hx hb dJ0_indexOf_0f7a4_2 (by decide) ?_
  refine gf_i (wr := []) (va_runV (As := [.int x1, .int 0]) (rest := []) hfix (j_ix2 l dC dI cyB cyI cyJ cyZ cyO adK adV x1 _) (cwV 2 hts (gi_V (ow_m (k := 0) rfl) (ow_m (k := 1) rfl) (ow_m (k := 2) rfl) (ow_m (k := 3) rfl) (sb_c sb_l) gd_j_ix2) rfl rfl rfl (by decide +kernel) ⟨Nat.le_of_ble_eq_true rfl, Nat.le_of_ble_eq_true rfl⟩) (g_preVS hZ hS hA hKN hP hD 1 (by decide)) rfl rfl hl.1 rfl (lv_room (Nat.le_of_ble_eq_true rfl)) dJ0_indexOf_0f7a4_3 ⟨Nat.le_of_ble_eq_true rfl, Nat.le_of_ble_eq_true rfl⟩) hP hD hS hA [] [] rfl rfl (by decide) (by decide) (fun r52086 u52087 H locs qu52087 hP hD hS => ?_)
  have hP : va_P (dC, dI) vwCl [] H := hP
  have hD : va_D A [] := hD
  obtain ⟨b52088, b52089⟩ := qu52087
  have w52090 : -1 ≤ r52086.toInt := by first | omega | assumption | rfl | (intros; rfl)
  have w52091 : r52086.toInt ≤ 10 := by first | omega | assumption | rfl | (intros; rfl)
  exact W.iret (v := r52086) hx hb hr (fun t ht hW => ⟨⟨r52086, (), rfl, ⟨w52090, w52091⟩, cE.of ht hP hD [] (by decide) rfl⟩, hS.F ht⟩) hS.2.2 dJ0_indexOf_0f7a4_6
def wo_j_bitCount : List Cond := [.constant RJ6 265 1431655765, .constant RJ6 266 858993459, .constant RJ6 267 252645135]
def wq_j_bitCount : List Cond := .code yJ6_bitCount_0f7a4 cJ6_bitCount_0f7a4 1 (some .int) :: (wo_j_bitCount ++ [])
theorem gd_j_bitCount : Gd wq_j_bitCount := gd_c (gd_a (gd_o (by decide +kernel)) gd_0)
abbrev wc_j_bitCount (cyB cyI cyJ cyZ cyO : ClassId) (x0 : Int32) : va_W := []
set_option maxHeartbeats 4000000 in
set_option maxRecDepth 100000 in
theorem j_bitCount (l : Launch) (dC : Nat → ClassId) (dI : Nat → Nat → Nat) (cyB cyI cyJ cyZ cyO : ClassId) (x0 : Int32) (sz : Nat) : Met l yJ6_bitCount_0f7a4 wq_j_bitCount ({ frames := 0, cells := 0, slots := 0, locals := 0 }) (va_Pc [.int x0] (cB (dC, dI) (kT cyB cyI cyJ cyZ cyO) (wc_j_bitCount cyB cyI cyJ cyZ cyO x0) sz)) (va_Qi (fun (r : Int32) (u : Unit) => (0 ≤ r.toInt) ∧ (r.toInt ≤ 63)) (fun (u : Unit) t => cE (dC, dI) (va_A (wc_j_bitCount cyB cyI cyJ cyZ cyO x0) sz) ([]) t.heap) (va_A (wc_j_bitCount cyB cyI cyJ cyZ cyO x0) sz)) 0 0 (va_A (wc_j_bitCount cyB cyI cyJ cyZ cyO x0) sz) := by
  refine Met.ofW (cc := cJ6_bitCount_0f7a4) (maxL := 1) (ret := (some .int)) (by decide) rfl ?_
  intro p e s m args below meth c s₁ B hml hv
  obtain ⟨rfl, hsz, hP, hKN, hD0⟩ := hv
  have hx := B.exec
  have hb := B.bytes
  have hr := B.returns
  have hts := atoms_spec (ws := wq_j_bitCount) B.pre
  have hown : s.vm.findClass RJ6 = some m.cls := findClass_of_methodNamed B.named
  have hlocks := B.notSynchronized
  have hK := hKN.1
  have hfix : CallFix p m c cJ6_bitCount_0f7a4 1 s [.int x0].toArray wq_j_bitCount RJ6 := ⟨hx, hb, hml, hown, hts⟩
  subst hsz
  have hD := hD0.self (sz := s.heap.size)
  generalize hAe : va_A (wc_j_bitCount cyB cyI cyJ cyZ cyO x0) s.heap.size = A at hD ⊢
  have hA : ∀ q : Nat, s.heap.size ≤ q → A q := fun q h => by rw [← hAe]; exact Or.inr h
  have hS : va_S A s.heap s.heap [] := va_S.rf
  have hl := lv_entry ([.int x0]) (n := 1) (Nat.le_of_ble_eq_true rfl)
  rw [lg_entry_eq]
  generalize (lg_sl ([.int x0]) ++ List.replicate (1 - (lg_sl ([.int x0])).length) Slot.unset).toArray = ls at hl ⊢
  have hl : lv_has ls 1 [(0, .int x0)] := hl
  refine lv_iload_n hx hb dJ6_bitCount_0f7a4_0 rfl (lv_at hl 0 rfl) ?_
  refine lv_iload_n hx hb dJ6_bitCount_0f7a4_1 rfl (lv_at hl 0 rfl) ?_
  refine lv_iconst (v := 1) hx hb dJ6_bitCount_0f7a4_2 (by decide) ?_
  refine lv_iushr hx hb dJ6_bitCount_0f7a4_3 rfl ?_
  refine lv_topi (fun z52107 ez52107 => ?_)
  refine lv_ldcw (v := 1431655765) hx hb hown (hts _ (ow_m (k := 0) rfl)) dJ6_bitCount_0f7a4_4 ?_
  refine lv_iand hx hb dJ6_bitCount_0f7a4_7 ?_
  refine lv_topi (fun z52108 ez52108 => ?_)
  refine lv_isub hx hb dJ6_bitCount_0f7a4_8 ?_
  refine lv_topi (fun z52109 ez52109 => ?_)
  refine lv_istore_n (lv' := [(0, .int z52109)]) hx hb dJ6_bitCount_0f7a4_9 rfl hl (by decide) rfl (fun ls hl => ?_)
  refine lv_iload_n hx hb dJ6_bitCount_0f7a4_10 rfl (lv_at hl 0 rfl) ?_
  refine lv_ldcw (v := 858993459) hx hb hown (hts _ (ow_m (k := 1) rfl)) dJ6_bitCount_0f7a4_11 ?_
  refine lv_iand hx hb dJ6_bitCount_0f7a4_14 ?_
  refine lv_topi (fun z52110 ez52110 => ?_)
  refine lv_iload_n hx hb dJ6_bitCount_0f7a4_15 rfl (lv_at hl 0 rfl) ?_
  refine lv_iconst (v := 2) hx hb dJ6_bitCount_0f7a4_16 (by decide) ?_
  refine lv_iushr hx hb dJ6_bitCount_0f7a4_17 rfl ?_
  refine lv_topi (fun z52111 ez52111 => ?_)
  refine lv_ldcw (v := 858993459) hx hb hown (hts _ (ow_m (k := 1) rfl)) dJ6_bitCount_0f7a4_18 ?_
  refine lv_iand hx hb dJ6_bitCount_0f7a4_21 ?_
  refine lv_topi (fun z52112 ez52112 => ?_)
  refine lv_iadd hx hb dJ6_bitCount_0f7a4_22 ?_
  refine lv_topi (fun z52113 ez52113 => ?_)
  refine lv_istore_n (lv' := [(0, .int z52113)]) hx hb dJ6_bitCount_0f7a4_23 rfl hl (by decide) rfl (fun ls hl => ?_)
  refine lv_iload_n hx hb dJ6_bitCount_0f7a4_24 rfl (lv_at hl 0 rfl) ?_
  refine lv_iload_n hx hb dJ6_bitCount_0f7a4_25 rfl (lv_at hl 0 rfl) ?_
  refine lv_iconst (v := 4) hx hb dJ6_bitCount_0f7a4_26 (by decide) ?_
  refine lv_iushr hx hb dJ6_bitCount_0f7a4_27 rfl ?_
  refine lv_topi (fun z52114 ez52114 => ?_)
  refine lv_iadd hx hb dJ6_bitCount_0f7a4_28 ?_
  refine lv_topi (fun z52115 ez52115 => ?_)
  refine lv_ldcw (v := 252645135) hx hb hown (hts _ (ow_m (k := 2) rfl)) dJ6_bitCount_0f7a4_29 ?_
  refine lv_iand hx hb dJ6_bitCount_0f7a4_32 ?_
  refine lv_topi (fun z52116 ez52116 => ?_)
  refine lv_istore_n (lv' := [(0, .int z52116)]) hx hb dJ6_bitCount_0f7a4_33 rfl hl (by decide) rfl (fun ls hl => ?_)
  refine lv_iload_n hx hb dJ6_bitCount_0f7a4_34 rfl (lv_at hl 0 rfl) ?_
  refine lv_iload_n hx hb dJ6_bitCount_0f7a4_35 rfl (lv_at hl 0 rfl) ?_
  refine lv_bipush (v := 8) hx hb dJ6_bitCount_0f7a4_36 (by decide) ?_
  refine lv_iushr hx hb dJ6_bitCount_0f7a4_38 rfl ?_
  refine lv_topi (fun z52117 ez52117 => ?_)
  refine lv_iadd hx hb dJ6_bitCount_0f7a4_39 ?_
  refine lv_topi (fun z52118 ez52118 => ?_)
  refine lv_istore_n (lv' := [(0, .int z52118)]) hx hb dJ6_bitCount_0f7a4_40 rfl hl (by decide) rfl (fun ls hl => ?_)
  refine lv_iload_n hx hb dJ6_bitCount_0f7a4_41 rfl (lv_at hl 0 rfl) ?_
  refine lv_iload_n hx hb dJ6_bitCount_0f7a4_42 rfl (lv_at hl 0 rfl) ?_
  refine lv_bipush (v := 16) hx hb dJ6_bitCount_0f7a4_43 (by decide) ?_
  refine lv_iushr hx hb dJ6_bitCount_0f7a4_45 rfl ?_
  refine lv_topi (fun z52119 ez52119 => ?_)
  refine lv_iadd hx hb dJ6_bitCount_0f7a4_46 ?_
  refine lv_topi (fun z52120 ez52120 => ?_)
  refine lv_istore_n (lv' := [(0, .int z52120)]) hx hb dJ6_bitCount_0f7a4_47 rfl hl (by decide) rfl (fun ls hl => ?_)
  refine lv_iload_n hx hb dJ6_bitCount_0f7a4_48 rfl (lv_at hl 0 rfl) ?_
  refine lv_bipush (v := 63) hx hb dJ6_bitCount_0f7a4_49 (by decide) ?_
  refine lv_iand hx hb dJ6_bitCount_0f7a4_51 ?_
  refine lv_topi (fun z52121 ez52121 => ?_)
  have tz52121 := ti_and z52120 (m := 63) 6 ez52121 rfl (by decide)
  have w52122 : 0 ≤ z52121.toInt := by first | omega | assumption | rfl | (intros; rfl)
  have w52123 : z52121.toInt ≤ 63 := by first | omega | assumption | rfl | (intros; rfl)
  exact W.iret (v := z52121) hx hb hr (fun t ht hW => ⟨⟨z52121, (), rfl, ⟨w52122, w52123⟩, cE.of ht hP hD [] (by decide) rfl⟩, hS.F ht⟩) hS.2.2 dJ6_bitCount_0f7a4_52
