theorem dX3_mendGap_39 : decode cX3_mendGap 39 = .ok (.aload_n 0, 1) := by decide +kernel
theorem dX3_mendGap_40 : decode cX3_mendGap 40 = .ok (.aload_n 1, 1) := by decide +kernel
theorem dX3_mendGap_41 : decode cX3_mendGap 41 = .ok (.iload_n 2, 1) := by decide +kernel
theorem dX3_mendGap_42 : decode cX3_mendGap 42 = .ok (.iload 5, 2) := by decide +kernel
theorem dX3_mendGap_44 : decode cX3_mendGap 44 = .ok (.invokevirtual 38, 3) := by decide +kernel
theorem dX3_mendGap_47 : decode cX3_mendGap 47 = .ok (.iinc 5 1, 3) := by decide +kernel
theorem dX3_mendGap_50 : decode cX3_mendGap 50 = .ok (.goto (-22), 3) := by decide +kernel
theorem dX3_mendGap_53 : decode cX3_mendGap 53 = .ok (.aload_n 1, 1) := by decide +kernel
theorem dX3_mendGap_54 : decode cX3_mendGap 54 = .ok (.getfield 41, 3) := by decide +kernel
theorem dX3_mendGap_57 : decode cX3_mendGap 57 = .ok (.iload_n 3, 1) := by decide +kernel
theorem dX3_mendGap_58 : decode cX3_mendGap 58 = .ok (.iaload, 1) := by decide +kernel
theorem dX3_mendGap_59 : decode cX3_mendGap 59 = .ok (.iconst 1, 1) := by decide +kernel
theorem dX3_mendGap_60 : decode cX3_mendGap 60 = .ok (.iadd, 1) := by decide +kernel
theorem dX3_mendGap_61 : decode cX3_mendGap 61 = .ok (.istore 5, 2) := by decide +kernel
theorem dX3_mendGap_63 : decode cX3_mendGap 63 = .ok (.iload 5, 2) := by decide +kernel
theorem dX3_mendGap_65 : decode cX3_mendGap 65 = .ok (.aload_n 1, 1) := by decide +kernel
theorem dX3_mendGap_66 : decode cX3_mendGap 66 = .ok (.getfield 41, 3) := by decide +kernel
theorem dX3_mendGap_69 : decode cX3_mendGap 69 = .ok (.iload 4, 2) := by decide +kernel
theorem dX3_mendGap_71 : decode cX3_mendGap 71 = .ok (.iaload, 1) := by decide +kernel
theorem dX3_mendGap_72 : decode cX3_mendGap 72 = .ok (.if_icmp .gt 17, 3) := by decide +kernel
theorem dX3_mendGap_75 : decode cX3_mendGap 75 = .ok (.aload_n 0, 1) := by decide +kernel
theorem dX3_mendGap_76 : decode cX3_mendGap 76 = .ok (.aload_n 1, 1) := by decide +kernel
theorem dX3_mendGap_77 : decode cX3_mendGap 77 = .ok (.iload_n 2, 1) := by decide +kernel
theorem dX3_mendGap_78 : decode cX3_mendGap 78 = .ok (.iload 5, 2) := by decide +kernel
theorem dX3_mendGap_80 : decode cX3_mendGap 80 = .ok (.invokevirtual 44, 3) := by decide +kernel
theorem dX3_mendGap_83 : decode cX3_mendGap 83 = .ok (.iinc 5 1, 3) := by decide +kernel
theorem dX3_mendGap_86 : decode cX3_mendGap 86 = .ok (.goto (-23), 3) := by decide +kernel
theorem dX3_mendGap_89 : decode cX3_mendGap 89 = .ok (.return_, 1) := by decide +kernel
theorem dX4_init_0 : decode cX4_init 0 = .ok (.aload_n 0, 1) := by decide +kernel
theorem dX4_init_1 : decode cX4_init 1 = .ok (.invokespecial 3, 3) := by decide +kernel
theorem dX4_init_4 : decode cX4_init 4 = .ok (.aload_n 0, 1) := by decide +kernel
theorem dX4_init_5 : decode cX4_init 5 = .ok (.bipush 30, 2) := by decide +kernel
theorem dX4_init_7 : decode cX4_init 7 = .ok (.newarray .int, 2) := by decide +kernel
theorem dX4_init_9 : decode cX4_init 9 = .ok (.putfield 9, 3) := by decide +kernel
theorem dX4_init_12 : decode cX4_init 12 = .ok (.aload_n 0, 1) := by decide +kernel
theorem dX4_init_13 : decode cX4_init 13 = .ok (.bipush 30, 2) := by decide +kernel
theorem dX4_init_15 : decode cX4_init 15 = .ok (.newarray .boolean, 2) := by decide +kernel
theorem dX4_init_17 : decode cX4_init 17 = .ok (.putfield 15, 3) := by decide +kernel
theorem dX4_init_20 : decode cX4_init 20 = .ok (.aload_n 0, 1) := by decide +kernel
theorem dX4_init_21 : decode cX4_init 21 = .ok (.bipush 30, 2) := by decide +kernel
theorem dX4_init_23 : decode cX4_init 23 = .ok (.newarray .int, 2) := by decide +kernel
theorem dX4_init_25 : decode cX4_init 25 = .ok (.putfield 19, 3) := by decide +kernel
theorem dX4_init_28 : decode cX4_init 28 = .ok (.aload_n 0, 1) := by decide +kernel
theorem dX4_init_29 : decode cX4_init 29 = .ok (.bipush 30, 2) := by decide +kernel
theorem dX4_init_31 : decode cX4_init 31 = .ok (.newarray .int, 2) := by decide +kernel
theorem dX4_init_33 : decode cX4_init 33 = .ok (.putfield 22, 3) := by decide +kernel
theorem dX4_init_36 : decode cX4_init 36 = .ok (.return_, 1) := by decide +kernel
theorem dX4_forget_0 : decode cX4_forget 0 = .ok (.aload_n 0, 1) := by decide +kernel
theorem dX4_forget_1 : decode cX4_forget 1 = .ok (.iconst 0, 1) := by decide +kernel
theorem dX4_forget_2 : decode cX4_forget 2 = .ok (.putfield 25, 3) := by decide +kernel
theorem dX4_forget_5 : decode cX4_forget 5 = .ok (.return_, 1) := by decide +kernel
theorem dX4_tell_0 : decode cX4_tell 0 = .ok (.aload_n 0, 1) := by decide +kernel
theorem dX4_tell_1 : decode cX4_tell 1 = .ok (.getfield 25, 3) := by decide +kernel
theorem dX4_tell_4 : decode cX4_tell 4 = .ok (.bipush 30, 2) := by decide +kernel
theorem dX4_tell_6 : decode cX4_tell 6 = .ok (.if_icmp .lt 5, 3) := by decide +kernel
theorem dX4_tell_9 : decode cX4_tell 9 = .ok (.iconst (-1), 1) := by decide +kernel
theorem dX4_tell_10 : decode cX4_tell 10 = .ok (.ireturn, 1) := by decide +kernel
theorem dX4_tell_11 : decode cX4_tell 11 = .ok (.aload_n 0, 1) := by decide +kernel
theorem dX4_tell_12 : decode cX4_tell 12 = .ok (.getfield 9, 3) := by decide +kernel
theorem dX4_tell_15 : decode cX4_tell 15 = .ok (.aload_n 0, 1) := by decide +kernel
theorem dX4_tell_16 : decode cX4_tell 16 = .ok (.getfield 25, 3) := by decide +kernel
theorem dX4_tell_19 : decode cX4_tell 19 = .ok (.iload_n 1, 1) := by decide +kernel
theorem dX4_tell_20 : decode cX4_tell 20 = .ok (.iastore, 1) := by decide +kernel
theorem dX4_tell_21 : decode cX4_tell 21 = .ok (.aload_n 0, 1) := by decide +kernel
theorem dX4_tell_22 : decode cX4_tell 22 = .ok (.getfield 15, 3) := by decide +kernel
theorem dX4_tell_25 : decode cX4_tell 25 = .ok (.aload_n 0, 1) := by decide +kernel
theorem dX4_tell_26 : decode cX4_tell 26 = .ok (.getfield 25, 3) := by decide +kernel
theorem dX4_tell_29 : decode cX4_tell 29 = .ok (.iload_n 2, 1) := by decide +kernel
theorem dX4_tell_30 : decode cX4_tell 30 = .ok (.bastore, 1) := by decide +kernel
theorem dX4_tell_31 : decode cX4_tell 31 = .ok (.aload_n 0, 1) := by decide +kernel
theorem dX4_tell_32 : decode cX4_tell 32 = .ok (.getfield 19, 3) := by decide +kernel
theorem dX4_tell_35 : decode cX4_tell 35 = .ok (.aload_n 0, 1) := by decide +kernel
theorem dX4_tell_36 : decode cX4_tell 36 = .ok (.getfield 25, 3) := by decide +kernel
theorem dX4_tell_39 : decode cX4_tell 39 = .ok (.iload_n 3, 1) := by decide +kernel
theorem dX4_tell_40 : decode cX4_tell 40 = .ok (.iastore, 1) := by decide +kernel
theorem dX4_tell_41 : decode cX4_tell 41 = .ok (.aload_n 0, 1) := by decide +kernel
theorem dX4_tell_42 : decode cX4_tell 42 = .ok (.getfield 22, 3) := by decide +kernel
theorem dX4_tell_45 : decode cX4_tell 45 = .ok (.aload_n 0, 1) := by decide +kernel
theorem dX4_tell_46 : decode cX4_tell 46 = .ok (.getfield 25, 3) := by decide +kernel
theorem dX4_tell_49 : decode cX4_tell 49 = .ok (.iconst (-1), 1) := by decide +kernel
theorem dX4_tell_50 : decode cX4_tell 50 = .ok (.iastore, 1) := by decide +kernel
theorem dX4_tell_51 : decode cX4_tell 51 = .ok (.aload_n 0, 1) := by decide +kernel
theorem dX4_tell_52 : decode cX4_tell 52 = .ok (.dup, 1) := by decide +kernel
theorem dX4_tell_53 : decode cX4_tell 53 = .ok (.getfield 25, 3) := by decide +kernel
theorem dX4_tell_56 : decode cX4_tell 56 = .ok (.iconst 1, 1) := by decide +kernel
theorem dX4_tell_57 : decode cX4_tell 57 = .ok (.iadd, 1) := by decide +kernel
theorem dX4_tell_58 : decode cX4_tell 58 = .ok (.putfield 25, 3) := by decide +kernel
theorem dX4_tell_61 : decode cX4_tell 61 = .ok (.aload_n 0, 1) := by decide +kernel
theorem dX4_tell_62 : decode cX4_tell 62 = .ok (.getfield 25, 3) := by decide +kernel
theorem dX4_tell_65 : decode cX4_tell 65 = .ok (.iconst 1, 1) := by decide +kernel
theorem dX4_tell_66 : decode cX4_tell 66 = .ok (.isub, 1) := by decide +kernel
theorem dX4_tell_67 : decode cX4_tell 67 = .ok (.ireturn, 1) := by decide +kernel
theorem dX4_takeBack_0 : decode cX4_takeBack 0 = .ok (.iload_n 1, 1) := by decide +kernel
theorem dX4_takeBack_1 : decode cX4_takeBack 1 = .ok (.ifCond .lt 21, 3) := by decide +kernel
theorem dX4_takeBack_4 : decode cX4_takeBack 4 = .ok (.iload_n 1, 1) := by decide +kernel
theorem dX4_takeBack_5 : decode cX4_takeBack 5 = .ok (.aload_n 0, 1) := by decide +kernel
theorem dX4_takeBack_6 : decode cX4_takeBack 6 = .ok (.getfield 25, 3) := by decide +kernel
theorem dX4_takeBack_9 : decode cX4_takeBack 9 = .ok (.if_icmp .ge 13, 3) := by decide +kernel
theorem dX4_takeBack_12 : decode cX4_takeBack 12 = .ok (.aload_n 0, 1) := by decide +kernel
theorem dX4_takeBack_13 : decode cX4_takeBack 13 = .ok (.getfield 22, 3) := by decide +kernel
theorem dX4_takeBack_16 : decode cX4_takeBack 16 = .ok (.iload_n 1, 1) := by decide +kernel
theorem dX4_takeBack_17 : decode cX4_takeBack 17 = .ok (.iaload, 1) := by decide +kernel
theorem dX4_takeBack_18 : decode cX4_takeBack 18 = .ok (.iconst (-1), 1) := by decide +kernel
theorem dX4_takeBack_19 : decode cX4_takeBack 19 = .ok (.if_icmp .eq 5, 3) := by decide +kernel
theorem dX4_takeBack_22 : decode cX4_takeBack 22 = .ok (.iconst 0, 1) := by decide +kernel
theorem dX4_takeBack_23 : decode cX4_takeBack 23 = .ok (.ireturn, 1) := by decide +kernel
theorem dX4_takeBack_24 : decode cX4_takeBack 24 = .ok (.aload_n 0, 1) := by decide +kernel
theorem dX4_takeBack_25 : decode cX4_takeBack 25 = .ok (.getfield 22, 3) := by decide +kernel
theorem dX4_takeBack_28 : decode cX4_takeBack 28 = .ok (.iload_n 1, 1) := by decide +kernel
theorem dX4_takeBack_29 : decode cX4_takeBack 29 = .ok (.iload_n 2, 1) := by decide +kernel
theorem dX4_takeBack_30 : decode cX4_takeBack 30 = .ok (.iastore, 1) := by decide +kernel
theorem dX4_takeBack_31 : decode cX4_takeBack 31 = .ok (.iconst 1, 1) := by decide +kernel
theorem dX4_takeBack_32 : decode cX4_takeBack 32 = .ok (.ireturn, 1) := by decide +kernel
theorem dX4_allow_0 : decode cX4_allow 0 = .ok (.iconst 0, 1) := by decide +kernel
theorem dX4_allow_1 : decode cX4_allow 1 = .ok (.istore_n 3, 1) := by decide +kernel
theorem dX4_allow_2 : decode cX4_allow 2 = .ok (.iload_n 3, 1) := by decide +kernel
theorem dX4_allow_3 : decode cX4_allow 3 = .ok (.aload_n 0, 1) := by decide +kernel
theorem dX4_allow_4 : decode cX4_allow 4 = .ok (.getfield 25, 3) := by decide +kernel
theorem dX4_allow_7 : decode cX4_allow 7 = .ok (.if_icmp .ge 44, 3) := by decide +kernel
theorem dX4_allow_10 : decode cX4_allow 10 = .ok (.aload_n 0, 1) := by decide +kernel
theorem dX4_allow_11 : decode cX4_allow 11 = .ok (.iload_n 3, 1) := by decide +kernel
theorem dX4_allow_12 : decode cX4_allow 12 = .ok (.iload_n 2, 1) := by decide +kernel
theorem dX4_allow_13 : decode cX4_allow 13 = .ok (.invokevirtual 29, 3) := by decide +kernel
theorem dX4_allow_16 : decode cX4_allow 16 = .ok (.ifCond .eq 29, 3) := by decide +kernel
theorem dX4_allow_19 : decode cX4_allow 19 = .ok (.aload_n 0, 1) := by decide +kernel
theorem dX4_allow_20 : decode cX4_allow 20 = .ok (.getfield 15, 3) := by decide +kernel
theorem dX4_allow_23 : decode cX4_allow 23 = .ok (.iload_n 3, 1) := by decide +kernel
theorem dX4_allow_24 : decode cX4_allow 24 = .ok (.baload, 1) := by decide +kernel
theorem dX4_allow_25 : decode cX4_allow 25 = .ok (.iload_n 1, 1) := by decide +kernel
theorem dX4_allow_26 : decode cX4_allow 26 = .ok (.aload_n 0, 1) := by decide +kernel
theorem dX4_allow_27 : decode cX4_allow 27 = .ok (.getfield 9, 3) := by decide +kernel
theorem dX4_allow_30 : decode cX4_allow 30 = .ok (.iload_n 3, 1) := by decide +kernel
theorem dX4_allow_31 : decode cX4_allow 31 = .ok (.iaload, 1) := by decide +kernel
theorem dX4_allow_32 : decode cX4_allow 32 = .ok (.if_icmp .gt 7, 3) := by decide +kernel
theorem dX4_allow_35 : decode cX4_allow 35 = .ok (.iconst 1, 1) := by decide +kernel
theorem dX4_allow_36 : decode cX4_allow 36 = .ok (.goto 4, 3) := by decide +kernel
theorem dX4_allow_39 : decode cX4_allow 39 = .ok (.iconst 0, 1) := by decide +kernel
theorem dX4_allow_40 : decode cX4_allow 40 = .ok (.if_icmp .eq 5, 3) := by decide +kernel
theorem dX4_allow_43 : decode cX4_allow 43 = .ok (.iconst 0, 1) := by decide +kernel
theorem dX4_allow_44 : decode cX4_allow 44 = .ok (.ireturn, 1) := by decide +kernel
theorem dX4_allow_45 : decode cX4_allow 45 = .ok (.iinc 3 1, 3) := by decide +kernel
theorem dX4_allow_48 : decode cX4_allow 48 = .ok (.goto (-46), 3) := by decide +kernel
theorem dX4_allow_51 : decode cX4_allow 51 = .ok (.iconst 1, 1) := by decide +kernel
theorem dX4_allow_52 : decode cX4_allow 52 = .ok (.ireturn, 1) := by decide +kernel
theorem dX4_counts_0 : decode cX4_counts 0 = .ok (.aload_n 0, 1) := by decide +kernel
theorem dX4_counts_1 : decode cX4_counts 1 = .ok (.getfield 22, 3) := by decide +kernel
theorem dX4_counts_4 : decode cX4_counts 4 = .ok (.iload_n 1, 1) := by decide +kernel
theorem dX4_counts_5 : decode cX4_counts 5 = .ok (.iaload, 1) := by decide +kernel
theorem dX4_counts_6 : decode cX4_counts 6 = .ok (.iconst (-1), 1) := by decide +kernel
theorem dX4_counts_7 : decode cX4_counts 7 = .ok (.if_icmp .eq 17, 3) := by decide +kernel
theorem dX4_counts_10 : decode cX4_counts 10 = .ok (.aload_n 0, 1) := by decide +kernel
theorem dX4_counts_11 : decode cX4_counts 11 = .ok (.getfield 22, 3) := by decide +kernel
theorem dX4_counts_14 : decode cX4_counts 14 = .ok (.iload_n 1, 1) := by decide +kernel
theorem dX4_counts_15 : decode cX4_counts 15 = .ok (.iaload, 1) := by decide +kernel
theorem dX4_counts_16 : decode cX4_counts 16 = .ok (.iload_n 2, 1) := by decide +kernel
theorem dX4_counts_17 : decode cX4_counts 17 = .ok (.if_icmp .gt 7, 3) := by decide +kernel
theorem dX4_counts_20 : decode cX4_counts 20 = .ok (.iconst 1, 1) := by decide +kernel
theorem dX4_counts_21 : decode cX4_counts 21 = .ok (.goto 4, 3) := by decide +kernel
theorem dX4_counts_24 : decode cX4_counts 24 = .ok (.iconst 0, 1) := by decide +kernel
theorem dX4_counts_25 : decode cX4_counts 25 = .ok (.istore_n 3, 1) := by decide +kernel
theorem dX4_counts_26 : decode cX4_counts 26 = .ok (.aload_n 0, 1) := by decide +kernel
theorem dX4_counts_27 : decode cX4_counts 27 = .ok (.getfield 19, 3) := by decide +kernel
theorem dX4_counts_30 : decode cX4_counts 30 = .ok (.iload_n 1, 1) := by decide +kernel
theorem dX4_counts_31 : decode cX4_counts 31 = .ok (.iaload, 1) := by decide +kernel
theorem dX4_counts_32 : decode cX4_counts 32 = .ok (.iload_n 2, 1) := by decide +kernel
theorem dX4_counts_33 : decode cX4_counts 33 = .ok (.if_icmp .gt 11, 3) := by decide +kernel
theorem dX4_counts_36 : decode cX4_counts 36 = .ok (.iload_n 3, 1) := by decide +kernel
theorem dX4_counts_37 : decode cX4_counts 37 = .ok (.ifCond .ne 7, 3) := by decide +kernel
theorem dX4_counts_40 : decode cX4_counts 40 = .ok (.iconst 1, 1) := by decide +kernel
theorem dX4_counts_41 : decode cX4_counts 41 = .ok (.goto 4, 3) := by decide +kernel
theorem dX4_counts_44 : decode cX4_counts 44 = .ok (.iconst 0, 1) := by decide +kernel
theorem dX4_counts_45 : decode cX4_counts 45 = .ok (.ireturn, 1) := by decide +kernel
theorem dX5_init_0 : decode cX5_init 0 = .ok (.aload_n 0, 1) := by decide +kernel
theorem dX5_init_1 : decode cX5_init 1 = .ok (.invokespecial 3, 3) := by decide +kernel
theorem dX5_init_4 : decode cX5_init 4 = .ok (.aload_n 0, 1) := by decide +kernel
theorem dX5_init_5 : decode cX5_init 5 = .ok (.bipush 6, 2) := by decide +kernel
theorem dX5_init_7 : decode cX5_init 7 = .ok (.newarray .int, 2) := by decide +kernel
theorem dX5_init_9 : decode cX5_init 9 = .ok (.putfield 9, 3) := by decide +kernel
theorem dX5_init_12 : decode cX5_init 12 = .ok (.aload_n 0, 1) := by decide +kernel
theorem dX5_init_13 : decode cX5_init 13 = .ok (.bipush 8, 2) := by decide +kernel
theorem dX5_init_15 : decode cX5_init 15 = .ok (.newarray .int, 2) := by decide +kernel
theorem dX5_init_17 : decode cX5_init 17 = .ok (.putfield 15, 3) := by decide +kernel
theorem dX5_init_20 : decode cX5_init 20 = .ok (.aload_n 0, 1) := by decide +kernel
theorem dX5_init_21 : decode cX5_init 21 = .ok (.bipush 8, 2) := by decide +kernel
theorem dX5_init_23 : decode cX5_init 23 = .ok (.newarray .int, 2) := by decide +kernel
theorem dX5_init_25 : decode cX5_init 25 = .ok (.putfield 18, 3) := by decide +kernel
theorem dX5_init_28 : decode cX5_init 28 = .ok (.aload_n 0, 1) := by decide +kernel
theorem dX5_init_29 : decode cX5_init 29 = .ok (.sipush 328, 3) := by decide +kernel
theorem dX5_init_32 : decode cX5_init 32 = .ok (.newarray .int, 2) := by decide +kernel
theorem dX5_init_34 : decode cX5_init 34 = .ok (.putfield 21, 3) := by decide +kernel
theorem dX5_init_37 : decode cX5_init 37 = .ok (.aload_n 0, 1) := by decide +kernel
theorem dX5_init_38 : decode cX5_init 38 = .ok (.sipush 328, 3) := by decide +kernel
theorem dX5_init_41 : decode cX5_init 41 = .ok (.newarray .int, 2) := by decide +kernel
theorem dX5_init_43 : decode cX5_init 43 = .ok (.putfield 24, 3) := by decide +kernel
theorem dX5_init_46 : decode cX5_init 46 = .ok (.aload_n 0, 1) := by decide +kernel
theorem dX5_init_47 : decode cX5_init 47 = .ok (.bipush 41, 2) := by decide +kernel
theorem dX5_init_49 : decode cX5_init 49 = .ok (.newarray .int, 2) := by decide +kernel
theorem dX5_init_51 : decode cX5_init 51 = .ok (.putfield 27, 3) := by decide +kernel
theorem dX5_init_54 : decode cX5_init 54 = .ok (.aload_n 0, 1) := by decide +kernel
theorem dX5_init_55 : decode cX5_init 55 = .ok (.bipush 41, 2) := by decide +kernel
theorem dX5_init_57 : decode cX5_init 57 = .ok (.newarray .int, 2) := by decide +kernel
theorem dX5_init_59 : decode cX5_init 59 = .ok (.putfield 30, 3) := by decide +kernel
theorem dX5_init_62 : decode cX5_init 62 = .ok (.aload_n 0, 1) := by decide +kernel
theorem dX5_init_63 : decode cX5_init 63 = .ok (.iconst (-1), 1) := by decide +kernel
theorem dX5_init_64 : decode cX5_init 64 = .ok (.putfield 33, 3) := by decide +kernel
theorem dX5_init_67 : decode cX5_init 67 = .ok (.return_, 1) := by decide +kernel
theorem dX5_startAs_0 : decode cX5_startAs 0 = .ok (.aload_n 0, 1) := by decide +kernel
theorem dX5_startAs_1 : decode cX5_startAs 1 = .ok (.aload_n 1, 1) := by decide +kernel
theorem dX5_startAs_2 : decode cX5_startAs 2 = .ok (.getfield 37, 3) := by decide +kernel
theorem dX5_startAs_5 : decode cX5_startAs 5 = .ok (.putfield 42, 3) := by decide +kernel
theorem dX5_startAs_8 : decode cX5_startAs 8 = .ok (.iconst 0, 1) := by decide +kernel
theorem dX5_startAs_9 : decode cX5_startAs 9 = .ok (.istore_n 2, 1) := by decide +kernel
theorem dX5_startAs_10 : decode cX5_startAs 10 = .ok (.iload_n 2, 1) := by decide +kernel
theorem dX5_startAs_11 : decode cX5_startAs 11 = .ok (.aload_n 0, 1) := by decide +kernel
theorem dX5_startAs_12 : decode cX5_startAs 12 = .ok (.getfield 42, 3) := by decide +kernel
theorem dX5_startAs_15 : decode cX5_startAs 15 = .ok (.if_icmp .ge 21, 3) := by decide +kernel
theorem dX5_startAs_18 : decode cX5_startAs 18 = .ok (.aload_n 0, 1) := by decide +kernel
theorem dX5_startAs_19 : decode cX5_startAs 19 = .ok (.getfield 9, 3) := by decide +kernel
theorem dX5_startAs_22 : decode cX5_startAs 22 = .ok (.iload_n 2, 1) := by decide +kernel
theorem dX5_startAs_23 : decode cX5_startAs 23 = .ok (.aload_n 1, 1) := by decide +kernel
theorem dX5_startAs_24 : decode cX5_startAs 24 = .ok (.getfield 45, 3) := by decide +kernel
theorem dX5_startAs_27 : decode cX5_startAs 27 = .ok (.iload_n 2, 1) := by decide +kernel
theorem dX5_startAs_28 : decode cX5_startAs 28 = .ok (.iaload, 1) := by decide +kernel
theorem dX5_startAs_29 : decode cX5_startAs 29 = .ok (.iastore, 1) := by decide +kernel
theorem dX5_startAs_30 : decode cX5_startAs 30 = .ok (.iinc 2 1, 3) := by decide +kernel
theorem dX5_startAs_33 : decode cX5_startAs 33 = .ok (.goto (-23), 3) := by decide +kernel
theorem dX5_startAs_36 : decode cX5_startAs 36 = .ok (.iconst 0, 1) := by decide +kernel
theorem dX5_startAs_37 : decode cX5_startAs 37 = .ok (.istore_n 2, 1) := by decide +kernel
theorem dX5_startAs_38 : decode cX5_startAs 38 = .ok (.iload_n 2, 1) := by decide +kernel
theorem dX5_startAs_39 : decode cX5_startAs 39 = .ok (.bipush 8, 2) := by decide +kernel
theorem dX5_startAs_41 : decode cX5_startAs 41 = .ok (.if_icmp .ge 23, 3) := by decide +kernel
theorem dX5_startAs_44 : decode cX5_startAs 44 = .ok (.aload_n 0, 1) := by decide +kernel
theorem dX5_startAs_45 : decode cX5_startAs 45 = .ok (.getfield 15, 3) := by decide +kernel
theorem dX5_startAs_48 : decode cX5_startAs 48 = .ok (.iload_n 2, 1) := by decide +kernel
theorem dX5_startAs_49 : decode cX5_startAs 49 = .ok (.iconst 0, 1) := by decide +kernel
theorem dX5_startAs_50 : decode cX5_startAs 50 = .ok (.iastore, 1) := by decide +kernel
theorem dX5_startAs_51 : decode cX5_startAs 51 = .ok (.aload_n 0, 1) := by decide +kernel
theorem dX5_startAs_52 : decode cX5_startAs 52 = .ok (.getfield 18, 3) := by decide +kernel
theorem dX5_startAs_55 : decode cX5_startAs 55 = .ok (.iload_n 2, 1) := by decide +kernel
theorem dX5_startAs_56 : decode cX5_startAs 56 = .ok (.iconst 0, 1) := by decide +kernel
theorem dX5_startAs_57 : decode cX5_startAs 57 = .ok (.iastore, 1) := by decide +kernel
theorem dX5_startAs_58 : decode cX5_startAs 58 = .ok (.iinc 2 1, 3) := by decide +kernel
theorem dX5_startAs_61 : decode cX5_startAs 61 = .ok (.goto (-23), 3) := by decide +kernel
theorem dX5_startAs_64 : decode cX5_startAs 64 = .ok (.aload_n 0, 1) := by decide +kernel
theorem dX5_startAs_65 : decode cX5_startAs 65 = .ok (.iconst (-1), 1) := by decide +kernel
theorem dX5_startAs_66 : decode cX5_startAs 66 = .ok (.putfield 33, 3) := by decide +kernel
theorem dX5_startAs_69 : decode cX5_startAs 69 = .ok (.aload_n 0, 1) := by decide +kernel
theorem dX5_startAs_70 : decode cX5_startAs 70 = .ok (.iconst 0, 1) := by decide +kernel
theorem dX5_startAs_71 : decode cX5_startAs 71 = .ok (.putfield 48, 3) := by decide +kernel
theorem dX5_startAs_74 : decode cX5_startAs 74 = .ok (.aload_n 0, 1) := by decide +kernel
theorem dX5_startAs_75 : decode cX5_startAs 75 = .ok (.iconst 0, 1) := by decide +kernel
theorem dX5_startAs_76 : decode cX5_startAs 76 = .ok (.putfield 51, 3) := by decide +kernel
theorem dX5_startAs_79 : decode cX5_startAs 79 = .ok (.aload_n 0, 1) := by decide +kernel
theorem dX5_startAs_80 : decode cX5_startAs 80 = .ok (.aload_n 1, 1) := by decide +kernel
theorem dX5_startAs_81 : decode cX5_startAs 81 = .ok (.getfield 54, 3) := by decide +kernel
theorem dX5_startAs_84 : decode cX5_startAs 84 = .ok (.putfield 57, 3) := by decide +kernel
theorem dX5_startAs_87 : decode cX5_startAs 87 = .ok (.aload_n 0, 1) := by decide +kernel
theorem dX5_startAs_88 : decode cX5_startAs 88 = .ok (.iconst 0, 1) := by decide +kernel
theorem dX5_startAs_89 : decode cX5_startAs 89 = .ok (.putfield 60, 3) := by decide +kernel
theorem dX5_startAs_92 : decode cX5_startAs 92 = .ok (.return_, 1) := by decide +kernel
theorem dX5_copyFrom_0 : decode cX5_copyFrom 0 = .ok (.aload_n 1, 1) := by decide +kernel
theorem dX5_copyFrom_1 : decode cX5_copyFrom 1 = .ok (.getfield 9, 3) := by decide +kernel
theorem dX5_copyFrom_4 : decode cX5_copyFrom 4 = .ok (.iconst 0, 1) := by decide +kernel
theorem dX5_copyFrom_5 : decode cX5_copyFrom 5 = .ok (.aload_n 0, 1) := by decide +kernel
theorem dX5_copyFrom_6 : decode cX5_copyFrom 6 = .ok (.getfield 9, 3) := by decide +kernel
theorem dX5_copyFrom_9 : decode cX5_copyFrom 9 = .ok (.iconst 0, 1) := by decide +kernel
theorem dX5_copyFrom_10 : decode cX5_copyFrom 10 = .ok (.aload_n 0, 1) := by decide +kernel
theorem dX5_copyFrom_11 : decode cX5_copyFrom 11 = .ok (.getfield 9, 3) := by decide +kernel
theorem dX5_copyFrom_14 : decode cX5_copyFrom 14 = .ok (.arraylength, 1) := by decide +kernel
theorem dX5_copyFrom_15 : decode cX5_copyFrom 15 = .ok (.invokestatic 63, 3) := by decide +kernel
theorem dX5_copyFrom_18 : decode cX5_copyFrom 18 = .ok (.aload_n 1, 1) := by decide +kernel
theorem dX5_copyFrom_19 : decode cX5_copyFrom 19 = .ok (.getfield 15, 3) := by decide +kernel
theorem dX5_copyFrom_22 : decode cX5_copyFrom 22 = .ok (.iconst 0, 1) := by decide +kernel
theorem dX5_copyFrom_23 : decode cX5_copyFrom 23 = .ok (.aload_n 0, 1) := by decide +kernel
theorem dX5_copyFrom_24 : decode cX5_copyFrom 24 = .ok (.getfield 15, 3) := by decide +kernel
theorem dX5_copyFrom_27 : decode cX5_copyFrom 27 = .ok (.iconst 0, 1) := by decide +kernel
theorem dX5_copyFrom_28 : decode cX5_copyFrom 28 = .ok (.aload_n 0, 1) := by decide +kernel
theorem dX5_copyFrom_29 : decode cX5_copyFrom 29 = .ok (.getfield 15, 3) := by decide +kernel
theorem dX5_copyFrom_32 : decode cX5_copyFrom 32 = .ok (.arraylength, 1) := by decide +kernel
theorem dX5_copyFrom_33 : decode cX5_copyFrom 33 = .ok (.invokestatic 63, 3) := by decide +kernel
theorem dX5_copyFrom_36 : decode cX5_copyFrom 36 = .ok (.aload_n 1, 1) := by decide +kernel
theorem dX5_copyFrom_37 : decode cX5_copyFrom 37 = .ok (.getfield 18, 3) := by decide +kernel
theorem dX5_copyFrom_40 : decode cX5_copyFrom 40 = .ok (.iconst 0, 1) := by decide +kernel
theorem dX5_copyFrom_41 : decode cX5_copyFrom 41 = .ok (.aload_n 0, 1) := by decide +kernel
theorem dX5_copyFrom_42 : decode cX5_copyFrom 42 = .ok (.getfield 18, 3) := by decide +kernel
theorem dX5_copyFrom_45 : decode cX5_copyFrom 45 = .ok (.iconst 0, 1) := by decide +kernel
theorem dX5_copyFrom_46 : decode cX5_copyFrom 46 = .ok (.aload_n 0, 1) := by decide +kernel
theorem dX5_copyFrom_47 : decode cX5_copyFrom 47 = .ok (.getfield 18, 3) := by decide +kernel
theorem dX5_copyFrom_50 : decode cX5_copyFrom 50 = .ok (.arraylength, 1) := by decide +kernel
theorem dX5_copyFrom_51 : decode cX5_copyFrom 51 = .ok (.invokestatic 63, 3) := by decide +kernel
theorem dX5_copyFrom_54 : decode cX5_copyFrom 54 = .ok (.aload_n 1, 1) := by decide +kernel
theorem dX5_copyFrom_55 : decode cX5_copyFrom 55 = .ok (.getfield 21, 3) := by decide +kernel
theorem dX5_copyFrom_58 : decode cX5_copyFrom 58 = .ok (.iconst 0, 1) := by decide +kernel
theorem dX5_copyFrom_59 : decode cX5_copyFrom 59 = .ok (.aload_n 0, 1) := by decide +kernel
theorem dX5_copyFrom_60 : decode cX5_copyFrom 60 = .ok (.getfield 21, 3) := by decide +kernel
theorem dX5_copyFrom_63 : decode cX5_copyFrom 63 = .ok (.iconst 0, 1) := by decide +kernel
theorem dX5_copyFrom_64 : decode cX5_copyFrom 64 = .ok (.aload_n 0, 1) := by decide +kernel
theorem dX5_copyFrom_65 : decode cX5_copyFrom 65 = .ok (.getfield 21, 3) := by decide +kernel
theorem dX5_copyFrom_68 : decode cX5_copyFrom 68 = .ok (.arraylength, 1) := by decide +kernel
theorem dX5_copyFrom_69 : decode cX5_copyFrom 69 = .ok (.invokestatic 63, 3) := by decide +kernel
theorem dX5_copyFrom_72 : decode cX5_copyFrom 72 = .ok (.aload_n 1, 1) := by decide +kernel
theorem dX5_copyFrom_73 : decode cX5_copyFrom 73 = .ok (.getfield 24, 3) := by decide +kernel
theorem dX5_copyFrom_76 : decode cX5_copyFrom 76 = .ok (.iconst 0, 1) := by decide +kernel
theorem dX5_copyFrom_77 : decode cX5_copyFrom 77 = .ok (.aload_n 0, 1) := by decide +kernel
theorem dX5_copyFrom_78 : decode cX5_copyFrom 78 = .ok (.getfield 24, 3) := by decide +kernel
theorem dX5_copyFrom_81 : decode cX5_copyFrom 81 = .ok (.iconst 0, 1) := by decide +kernel
theorem dX5_copyFrom_82 : decode cX5_copyFrom 82 = .ok (.aload_n 0, 1) := by decide +kernel
theorem dX5_copyFrom_83 : decode cX5_copyFrom 83 = .ok (.getfield 24, 3) := by decide +kernel
theorem dX5_copyFrom_86 : decode cX5_copyFrom 86 = .ok (.arraylength, 1) := by decide +kernel
theorem dX5_copyFrom_87 : decode cX5_copyFrom 87 = .ok (.invokestatic 63, 3) := by decide +kernel
theorem dX5_copyFrom_90 : decode cX5_copyFrom 90 = .ok (.aload_n 1, 1) := by decide +kernel
theorem dX5_copyFrom_91 : decode cX5_copyFrom 91 = .ok (.getfield 27, 3) := by decide +kernel
theorem dX5_copyFrom_94 : decode cX5_copyFrom 94 = .ok (.iconst 0, 1) := by decide +kernel
theorem dX5_copyFrom_95 : decode cX5_copyFrom 95 = .ok (.aload_n 0, 1) := by decide +kernel
theorem dX5_copyFrom_96 : decode cX5_copyFrom 96 = .ok (.getfield 27, 3) := by decide +kernel
theorem dX5_copyFrom_99 : decode cX5_copyFrom 99 = .ok (.iconst 0, 1) := by decide +kernel
theorem dX5_copyFrom_100 : decode cX5_copyFrom 100 = .ok (.aload_n 0, 1) := by decide +kernel
theorem dX5_copyFrom_101 : decode cX5_copyFrom 101 = .ok (.getfield 27, 3) := by decide +kernel
theorem dX5_copyFrom_104 : decode cX5_copyFrom 104 = .ok (.arraylength, 1) := by decide +kernel
theorem dX5_copyFrom_105 : decode cX5_copyFrom 105 = .ok (.invokestatic 63, 3) := by decide +kernel
theorem dX5_copyFrom_108 : decode cX5_copyFrom 108 = .ok (.aload_n 1, 1) := by decide +kernel
theorem dX5_copyFrom_109 : decode cX5_copyFrom 109 = .ok (.getfield 30, 3) := by decide +kernel
theorem dX5_copyFrom_112 : decode cX5_copyFrom 112 = .ok (.iconst 0, 1) := by decide +kernel
theorem dX5_copyFrom_113 : decode cX5_copyFrom 113 = .ok (.aload_n 0, 1) := by decide +kernel
theorem dX5_copyFrom_114 : decode cX5_copyFrom 114 = .ok (.getfield 30, 3) := by decide +kernel
theorem dX5_copyFrom_117 : decode cX5_copyFrom 117 = .ok (.iconst 0, 1) := by decide +kernel
theorem dX5_copyFrom_118 : decode cX5_copyFrom 118 = .ok (.aload_n 0, 1) := by decide +kernel
theorem dX5_copyFrom_119 : decode cX5_copyFrom 119 = .ok (.getfield 30, 3) := by decide +kernel
theorem dX5_copyFrom_122 : decode cX5_copyFrom 122 = .ok (.arraylength, 1) := by decide +kernel
theorem dX5_copyFrom_123 : decode cX5_copyFrom 123 = .ok (.invokestatic 63, 3) := by decide +kernel
theorem dX5_copyFrom_126 : decode cX5_copyFrom 126 = .ok (.aload_n 0, 1) := by decide +kernel
theorem dX5_copyFrom_127 : decode cX5_copyFrom 127 = .ok (.aload_n 1, 1) := by decide +kernel
theorem dX5_copyFrom_128 : decode cX5_copyFrom 128 = .ok (.getfield 42, 3) := by decide +kernel
theorem dX5_copyFrom_131 : decode cX5_copyFrom 131 = .ok (.putfield 42, 3) := by decide +kernel
theorem dX5_copyFrom_134 : decode cX5_copyFrom 134 = .ok (.aload_n 0, 1) := by decide +kernel
theorem dX5_copyFrom_135 : decode cX5_copyFrom 135 = .ok (.aload_n 1, 1) := by decide +kernel
theorem dX5_copyFrom_136 : decode cX5_copyFrom 136 = .ok (.getfield 33, 3) := by decide +kernel
theorem dX5_copyFrom_139 : decode cX5_copyFrom 139 = .ok (.putfield 33, 3) := by decide +kernel
theorem dX5_copyFrom_142 : decode cX5_copyFrom 142 = .ok (.aload_n 0, 1) := by decide +kernel
theorem dX5_copyFrom_143 : decode cX5_copyFrom 143 = .ok (.aload_n 1, 1) := by decide +kernel
theorem dX5_copyFrom_144 : decode cX5_copyFrom 144 = .ok (.getfield 48, 3) := by decide +kernel
theorem dX5_copyFrom_147 : decode cX5_copyFrom 147 = .ok (.putfield 48, 3) := by decide +kernel
theorem dX5_copyFrom_150 : decode cX5_copyFrom 150 = .ok (.aload_n 0, 1) := by decide +kernel
theorem dX5_copyFrom_151 : decode cX5_copyFrom 151 = .ok (.aload_n 1, 1) := by decide +kernel
theorem dX5_copyFrom_152 : decode cX5_copyFrom 152 = .ok (.getfield 51, 3) := by decide +kernel
theorem dX5_copyFrom_155 : decode cX5_copyFrom 155 = .ok (.putfield 51, 3) := by decide +kernel
theorem dX5_copyFrom_158 : decode cX5_copyFrom 158 = .ok (.aload_n 0, 1) := by decide +kernel
theorem dX5_copyFrom_159 : decode cX5_copyFrom 159 = .ok (.aload_n 1, 1) := by decide +kernel
theorem dX5_copyFrom_160 : decode cX5_copyFrom 160 = .ok (.getfield 57, 3) := by decide +kernel
theorem dX5_copyFrom_163 : decode cX5_copyFrom 163 = .ok (.putfield 57, 3) := by decide +kernel
theorem dX5_copyFrom_166 : decode cX5_copyFrom 166 = .ok (.aload_n 0, 1) := by decide +kernel
theorem dX5_copyFrom_167 : decode cX5_copyFrom 167 = .ok (.aload_n 1, 1) := by decide +kernel
theorem dX5_copyFrom_168 : decode cX5_copyFrom 168 = .ok (.getfield 60, 3) := by decide +kernel
theorem dX5_copyFrom_171 : decode cX5_copyFrom 171 = .ok (.putfield 60, 3) := by decide +kernel
theorem dX5_copyFrom_174 : decode cX5_copyFrom 174 = .ok (.return_, 1) := by decide +kernel
theorem dX5_dueAt_0 : decode cX5_dueAt 0 = .ok (.iload_n 0, 1) := by decide +kernel
theorem dX5_dueAt_1 : decode cX5_dueAt 1 = .ok (.bipush 41, 2) := by decide +kernel
theorem dX5_dueAt_3 : decode cX5_dueAt 3 = .ok (.imul, 1) := by decide +kernel
theorem dX5_dueAt_4 : decode cX5_dueAt 4 = .ok (.iload_n 1, 1) := by decide +kernel
theorem dX5_dueAt_5 : decode cX5_dueAt 5 = .ok (.iadd, 1) := by decide +kernel
theorem dX5_dueAt_6 : decode cX5_dueAt 6 = .ok (.ireturn, 1) := by decide +kernel
theorem dX5_placeOf_0 : decode cX5_placeOf 0 = .ok (.iconst 0, 1) := by decide +kernel
theorem dX5_placeOf_1 : decode cX5_placeOf 1 = .ok (.istore_n 2, 1) := by decide +kernel
theorem dX5_placeOf_2 : decode cX5_placeOf 2 = .ok (.iload_n 2, 1) := by decide +kernel
theorem dX5_placeOf_3 : decode cX5_placeOf 3 = .ok (.aload_n 0, 1) := by decide +kernel
theorem dX5_placeOf_4 : decode cX5_placeOf 4 = .ok (.getfield 42, 3) := by decide +kernel
theorem dX5_placeOf_7 : decode cX5_placeOf 7 = .ok (.if_icmp .ge 21, 3) := by decide +kernel
theorem dX5_placeOf_10 : decode cX5_placeOf 10 = .ok (.aload_n 0, 1) := by decide +kernel
theorem dX5_placeOf_11 : decode cX5_placeOf 11 = .ok (.getfield 9, 3) := by decide +kernel
theorem dX5_placeOf_14 : decode cX5_placeOf 14 = .ok (.iload_n 2, 1) := by decide +kernel
theorem dX5_placeOf_15 : decode cX5_placeOf 15 = .ok (.iaload, 1) := by decide +kernel
theorem dX5_placeOf_16 : decode cX5_placeOf 16 = .ok (.iload_n 1, 1) := by decide +kernel
theorem dX5_placeOf_17 : decode cX5_placeOf 17 = .ok (.if_icmp .ne 5, 3) := by decide +kernel
theorem dX5_placeOf_20 : decode cX5_placeOf 20 = .ok (.iload_n 2, 1) := by decide +kernel
theorem dX5_placeOf_21 : decode cX5_placeOf 21 = .ok (.ireturn, 1) := by decide +kernel
theorem dX5_placeOf_22 : decode cX5_placeOf 22 = .ok (.iinc 2 1, 3) := by decide +kernel
theorem dX5_placeOf_25 : decode cX5_placeOf 25 = .ok (.goto (-23), 3) := by decide +kernel
theorem dX5_placeOf_28 : decode cX5_placeOf 28 = .ok (.iconst (-1), 1) := by decide +kernel
theorem dX5_placeOf_29 : decode cX5_placeOf 29 = .ok (.ireturn, 1) := by decide +kernel
theorem dX5_memberBits_0 : decode cX5_memberBits 0 = .ok (.iconst 0, 1) := by decide +kernel
theorem dX5_memberBits_1 : decode cX5_memberBits 1 = .ok (.istore_n 1, 1) := by decide +kernel
theorem dX5_memberBits_2 : decode cX5_memberBits 2 = .ok (.iconst 0, 1) := by decide +kernel
theorem dX5_memberBits_3 : decode cX5_memberBits 3 = .ok (.istore_n 2, 1) := by decide +kernel
theorem dX5_memberBits_4 : decode cX5_memberBits 4 = .ok (.iload_n 2, 1) := by decide +kernel
theorem dX5_memberBits_5 : decode cX5_memberBits 5 = .ok (.aload_n 0, 1) := by decide +kernel
theorem dX5_memberBits_6 : decode cX5_memberBits 6 = .ok (.getfield 42, 3) := by decide +kernel
theorem dX5_memberBits_9 : decode cX5_memberBits 9 = .ok (.if_icmp .ge 20, 3) := by decide +kernel
theorem dX5_memberBits_12 : decode cX5_memberBits 12 = .ok (.iload_n 1, 1) := by decide +kernel
theorem dX5_memberBits_13 : decode cX5_memberBits 13 = .ok (.iconst 1, 1) := by decide +kernel
theorem dX5_memberBits_14 : decode cX5_memberBits 14 = .ok (.aload_n 0, 1) := by decide +kernel
theorem dX5_memberBits_15 : decode cX5_memberBits 15 = .ok (.getfield 9, 3) := by decide +kernel
theorem dX5_memberBits_18 : decode cX5_memberBits 18 = .ok (.iload_n 2, 1) := by decide +kernel
theorem dX5_memberBits_19 : decode cX5_memberBits 19 = .ok (.iaload, 1) := by decide +kernel
theorem dX5_memberBits_20 : decode cX5_memberBits 20 = .ok (.ishl, 1) := by decide +kernel
theorem dX5_memberBits_21 : decode cX5_memberBits 21 = .ok (.ior, 1) := by decide +kernel
theorem dX5_memberBits_22 : decode cX5_memberBits 22 = .ok (.istore_n 1, 1) := by decide +kernel
theorem dX5_memberBits_23 : decode cX5_memberBits 23 = .ok (.iinc 2 1, 3) := by decide +kernel
theorem dX5_memberBits_26 : decode cX5_memberBits 26 = .ok (.goto (-22), 3) := by decide +kernel
theorem dX5_memberBits_29 : decode cX5_memberBits 29 = .ok (.iload_n 1, 1) := by decide +kernel
theorem dX5_memberBits_30 : decode cX5_memberBits 30 = .ok (.ireturn, 1) := by decide +kernel
theorem dX5_headHas_0 : decode cX5_headHas 0 = .ok (.aload_n 0, 1) := by decide +kernel
theorem dX5_headHas_1 : decode cX5_headHas 1 = .ok (.getfield 42, 3) := by decide +kernel
theorem dX5_headHas_4 : decode cX5_headHas 4 = .ok (.ifCond .ne 7, 3) := by decide +kernel
theorem dX5_headHas_7 : decode cX5_headHas 7 = .ok (.iconst 0, 1) := by decide +kernel
theorem dX5_headHas_8 : decode cX5_headHas 8 = .ok (.goto 14, 3) := by decide +kernel
theorem dX5_headHas_11 : decode cX5_headHas 11 = .ok (.aload_n 0, 1) := by decide +kernel
theorem dX5_headHas_12 : decode cX5_headHas 12 = .ok (.getfield 15, 3) := by decide +kernel
theorem dX5_headHas_15 : decode cX5_headHas 15 = .ok (.aload_n 0, 1) := by decide +kernel
theorem dX5_headHas_16 : decode cX5_headHas 16 = .ok (.getfield 9, 3) := by decide +kernel
theorem dX5_headHas_19 : decode cX5_headHas 19 = .ok (.iconst 0, 1) := by decide +kernel
theorem dX5_headHas_20 : decode cX5_headHas 20 = .ok (.iaload, 1) := by decide +kernel
theorem dX5_headHas_21 : decode cX5_headHas 21 = .ok (.iaload, 1) := by decide +kernel
theorem dX5_headHas_22 : decode cX5_headHas 22 = .ok (.ireturn, 1) := by decide +kernel
theorem dX5_headClean_0 : decode cX5_headClean 0 = .ok (.aload_n 0, 1) := by decide +kernel
theorem dX5_headClean_1 : decode cX5_headClean 1 = .ok (.getfield 42, 3) := by decide +kernel
theorem dX5_headClean_4 : decode cX5_headClean 4 = .ok (.ifCond .ne 7, 3) := by decide +kernel
theorem dX5_headClean_7 : decode cX5_headClean 7 = .ok (.iconst 0, 1) := by decide +kernel
theorem dX5_headClean_8 : decode cX5_headClean 8 = .ok (.goto 14, 3) := by decide +kernel
theorem dX5_headClean_11 : decode cX5_headClean 11 = .ok (.aload_n 0, 1) := by decide +kernel
theorem dX5_headClean_12 : decode cX5_headClean 12 = .ok (.getfield 18, 3) := by decide +kernel
theorem dX5_headClean_15 : decode cX5_headClean 15 = .ok (.aload_n 0, 1) := by decide +kernel
theorem dX5_headClean_16 : decode cX5_headClean 16 = .ok (.getfield 9, 3) := by decide +kernel
theorem dX5_headClean_19 : decode cX5_headClean 19 = .ok (.iconst 0, 1) := by decide +kernel
theorem dX5_headClean_20 : decode cX5_headClean 20 = .ok (.iaload, 1) := by decide +kernel
theorem dX5_headClean_21 : decode cX5_headClean 21 = .ok (.iaload, 1) := by decide +kernel
theorem dX5_headClean_22 : decode cX5_headClean 22 = .ok (.ireturn, 1) := by decide +kernel
theorem dX5_underWay_0 : decode cX5_underWay 0 = .ok (.iload_n 1, 1) := by decide +kernel
theorem dX5_underWay_1 : decode cX5_underWay 1 = .ok (.ifCond .lt 13, 3) := by decide +kernel
theorem dX5_underWay_4 : decode cX5_underWay 4 = .ok (.iload_n 1, 1) := by decide +kernel
theorem dX5_underWay_5 : decode cX5_underWay 5 = .ok (.iconst 1, 1) := by decide +kernel
theorem dX5_underWay_6 : decode cX5_underWay 6 = .ok (.iadd, 1) := by decide +kernel
theorem dX5_underWay_7 : decode cX5_underWay 7 = .ok (.aload_n 0, 1) := by decide +kernel
theorem dX5_underWay_8 : decode cX5_underWay 8 = .ok (.getfield 42, 3) := by decide +kernel
theorem dX5_underWay_11 : decode cX5_underWay 11 = .ok (.if_icmp .lt 5, 3) := by decide +kernel
theorem dX5_underWay_14 : decode cX5_underWay 14 = .ok (.iconst 0, 1) := by decide +kernel
theorem dX5_underWay_15 : decode cX5_underWay 15 = .ok (.ireturn, 1) := by decide +kernel
theorem dX5_underWay_16 : decode cX5_underWay 16 = .ok (.aload_n 0, 1) := by decide +kernel
theorem dX5_underWay_17 : decode cX5_underWay 17 = .ok (.getfield 9, 3) := by decide +kernel
theorem dX5_underWay_20 : decode cX5_underWay 20 = .ok (.iload_n 1, 1) := by decide +kernel
theorem dX5_underWay_21 : decode cX5_underWay 21 = .ok (.iaload, 1) := by decide +kernel
theorem dX5_underWay_22 : decode cX5_underWay 22 = .ok (.istore_n 3, 1) := by decide +kernel
theorem dX5_underWay_23 : decode cX5_underWay 23 = .ok (.aload_n 0, 1) := by decide +kernel
theorem dX5_underWay_24 : decode cX5_underWay 24 = .ok (.getfield 9, 3) := by decide +kernel
theorem dX5_underWay_27 : decode cX5_underWay 27 = .ok (.iload_n 1, 1) := by decide +kernel
theorem dX5_underWay_28 : decode cX5_underWay 28 = .ok (.iconst 1, 1) := by decide +kernel
theorem dX5_underWay_29 : decode cX5_underWay 29 = .ok (.iadd, 1) := by decide +kernel
theorem dX5_underWay_30 : decode cX5_underWay 30 = .ok (.iaload, 1) := by decide +kernel
theorem dX5_underWay_31 : decode cX5_underWay 31 = .ok (.istore 4, 2) := by decide +kernel
theorem dX5_underWay_33 : decode cX5_underWay 33 = .ok (.iload_n 2, 1) := by decide +kernel
theorem dX5_underWay_34 : decode cX5_underWay 34 = .ok (.ifCond .ne 20, 3) := by decide +kernel
theorem dX5_underWay_37 : decode cX5_underWay 37 = .ok (.aload_n 0, 1) := by decide +kernel
theorem dX5_underWay_38 : decode cX5_underWay 38 = .ok (.getfield 15, 3) := by decide +kernel
theorem dX5_underWay_41 : decode cX5_underWay 41 = .ok (.iload_n 3, 1) := by decide +kernel
theorem dX5_underWay_42 : decode cX5_underWay 42 = .ok (.iaload, 1) := by decide +kernel
theorem dX5_underWay_43 : decode cX5_underWay 43 = .ok (.aload_n 0, 1) := by decide +kernel
theorem dX5_underWay_44 : decode cX5_underWay 44 = .ok (.getfield 15, 3) := by decide +kernel
theorem dX5_underWay_47 : decode cX5_underWay 47 = .ok (.iload 4, 2) := by decide +kernel
theorem dX5_underWay_49 : decode cX5_underWay 49 = .ok (.iaload, 1) := by decide +kernel
theorem dX5_underWay_50 : decode cX5_underWay 50 = .ok (.isub, 1) := by decide +kernel
theorem dX5_underWay_51 : decode cX5_underWay 51 = .ok (.goto 17, 3) := by decide +kernel
theorem dX5_underWay_54 : decode cX5_underWay 54 = .ok (.aload_n 0, 1) := by decide +kernel
theorem dX5_underWay_55 : decode cX5_underWay 55 = .ok (.getfield 18, 3) := by decide +kernel
theorem dX5_underWay_58 : decode cX5_underWay 58 = .ok (.iload 4, 2) := by decide +kernel
theorem dX5_underWay_60 : decode cX5_underWay 60 = .ok (.iaload, 1) := by decide +kernel
theorem dX5_underWay_61 : decode cX5_underWay 61 = .ok (.aload_n 0, 1) := by decide +kernel
theorem dX5_underWay_62 : decode cX5_underWay 62 = .ok (.getfield 18, 3) := by decide +kernel
theorem dX5_underWay_65 : decode cX5_underWay 65 = .ok (.iload_n 3, 1) := by decide +kernel
theorem dX5_underWay_66 : decode cX5_underWay 66 = .ok (.iaload, 1) := by decide +kernel
theorem dX5_underWay_67 : decode cX5_underWay 67 = .ok (.isub, 1) := by decide +kernel
theorem dX5_underWay_68 : decode cX5_underWay 68 = .ok (.ireturn, 1) := by decide +kernel
theorem dX5_allUnderWay_0 : decode cX5_allUnderWay 0 = .ok (.iconst 0, 1) := by decide +kernel
theorem dX5_allUnderWay_1 : decode cX5_allUnderWay 1 = .ok (.istore_n 1, 1) := by decide +kernel
theorem dX5_allUnderWay_2 : decode cX5_allUnderWay 2 = .ok (.iconst 0, 1) := by decide +kernel
theorem dX5_allUnderWay_3 : decode cX5_allUnderWay 3 = .ok (.istore_n 2, 1) := by decide +kernel
theorem dX5_allUnderWay_4 : decode cX5_allUnderWay 4 = .ok (.iload_n 2, 1) := by decide +kernel
theorem dX5_allUnderWay_5 : decode cX5_allUnderWay 5 = .ok (.aload_n 0, 1) := by decide +kernel
theorem dX5_allUnderWay_6 : decode cX5_allUnderWay 6 = .ok (.getfield 42, 3) := by decide +kernel
theorem dX5_allUnderWay_9 : decode cX5_allUnderWay 9 = .ok (.iconst 1, 1) := by decide +kernel
theorem dX5_allUnderWay_10 : decode cX5_allUnderWay 10 = .ok (.isub, 1) := by decide +kernel
theorem dX5_allUnderWay_11 : decode cX5_allUnderWay 11 = .ok (.if_icmp .ge 25, 3) := by decide +kernel
theorem dX5_allUnderWay_14 : decode cX5_allUnderWay 14 = .ok (.iload_n 1, 1) := by decide +kernel
theorem dX5_allUnderWay_15 : decode cX5_allUnderWay 15 = .ok (.aload_n 0, 1) := by decide +kernel
theorem dX5_allUnderWay_16 : decode cX5_allUnderWay 16 = .ok (.iload_n 2, 1) := by decide +kernel
theorem dX5_allUnderWay_17 : decode cX5_allUnderWay 17 = .ok (.iconst 0, 1) := by decide +kernel
theorem dX5_allUnderWay_18 : decode cX5_allUnderWay 18 = .ok (.invokevirtual 69, 3) := by decide +kernel
theorem dX5_allUnderWay_21 : decode cX5_allUnderWay 21 = .ok (.aload_n 0, 1) := by decide +kernel
theorem dX5_allUnderWay_22 : decode cX5_allUnderWay 22 = .ok (.iload_n 2, 1) := by decide +kernel
theorem dX5_allUnderWay_23 : decode cX5_allUnderWay 23 = .ok (.iconst 1, 1) := by decide +kernel
theorem dX5_allUnderWay_24 : decode cX5_allUnderWay 24 = .ok (.invokevirtual 69, 3) := by decide +kernel
theorem dX5_allUnderWay_27 : decode cX5_allUnderWay 27 = .ok (.iadd, 1) := by decide +kernel
theorem dX5_allUnderWay_28 : decode cX5_allUnderWay 28 = .ok (.iadd, 1) := by decide +kernel
theorem dX5_allUnderWay_29 : decode cX5_allUnderWay 29 = .ok (.istore_n 1, 1) := by decide +kernel
theorem dX5_allUnderWay_30 : decode cX5_allUnderWay 30 = .ok (.iinc 2 1, 3) := by decide +kernel
theorem dX5_allUnderWay_33 : decode cX5_allUnderWay 33 = .ok (.goto (-29), 3) := by decide +kernel
theorem dX5_allUnderWay_36 : decode cX5_allUnderWay 36 = .ok (.iload_n 1, 1) := by decide +kernel
theorem dX5_allUnderWay_37 : decode cX5_allUnderWay 37 = .ok (.ireturn, 1) := by decide +kernel
theorem dX5_ticksTillNext_0 : decode cX5_ticksTillNext 0 = .ok (.aload_n 0, 1) := by decide +kernel
theorem dX5_ticksTillNext_1 : decode cX5_ticksTillNext 1 = .ok (.getfield 9, 3) := by decide +kernel
theorem dX5_ticksTillNext_4 : decode cX5_ticksTillNext 4 = .ok (.iload_n 1, 1) := by decide +kernel
theorem dX5_ticksTillNext_5 : decode cX5_ticksTillNext 5 = .ok (.iaload, 1) := by decide +kernel
theorem dX5_ticksTillNext_6 : decode cX5_ticksTillNext 6 = .ok (.istore_n 3, 1) := by decide +kernel
theorem dX5_ticksTillNext_7 : decode cX5_ticksTillNext 7 = .ok (.aload_n 0, 1) := by decide +kernel
theorem dX5_ticksTillNext_8 : decode cX5_ticksTillNext 8 = .ok (.getfield 9, 3) := by decide +kernel
theorem dX5_ticksTillNext_11 : decode cX5_ticksTillNext 11 = .ok (.iload_n 1, 1) := by decide +kernel
theorem dX5_ticksTillNext_12 : decode cX5_ticksTillNext 12 = .ok (.iconst 1, 1) := by decide +kernel
theorem dX5_ticksTillNext_13 : decode cX5_ticksTillNext 13 = .ok (.iadd, 1) := by decide +kernel
theorem dX5_ticksTillNext_14 : decode cX5_ticksTillNext 14 = .ok (.iaload, 1) := by decide +kernel
theorem dX5_ticksTillNext_15 : decode cX5_ticksTillNext 15 = .ok (.istore 4, 2) := by decide +kernel
theorem dX5_ticksTillNext_17 : decode cX5_ticksTillNext 17 = .ok (.iload_n 2, 1) := by decide +kernel
theorem dX5_ticksTillNext_18 : decode cX5_ticksTillNext 18 = .ok (.ifCond .ne 24, 3) := by decide +kernel
theorem dX5_ticksTillNext_21 : decode cX5_ticksTillNext 21 = .ok (.aload_n 0, 1) := by decide +kernel
theorem dX5_ticksTillNext_22 : decode cX5_ticksTillNext 22 = .ok (.getfield 21, 3) := by decide +kernel
theorem dX5_ticksTillNext_25 : decode cX5_ticksTillNext 25 = .ok (.iload_n 3, 1) := by decide +kernel
theorem dX5_ticksTillNext_26 : decode cX5_ticksTillNext 26 = .ok (.aload_n 0, 1) := by decide +kernel
theorem dX5_ticksTillNext_27 : decode cX5_ticksTillNext 27 = .ok (.getfield 15, 3) := by decide +kernel
theorem dX5_ticksTillNext_30 : decode cX5_ticksTillNext 30 = .ok (.iload 4, 2) := by decide +kernel
theorem dX5_ticksTillNext_32 : decode cX5_ticksTillNext 32 = .ok (.iaload, 1) := by decide +kernel
theorem dX5_ticksTillNext_33 : decode cX5_ticksTillNext 33 = .ok (.iconst 1, 1) := by decide +kernel
theorem dX5_ticksTillNext_34 : decode cX5_ticksTillNext 34 = .ok (.iadd, 1) := by decide +kernel
theorem dX5_ticksTillNext_35 : decode cX5_ticksTillNext 35 = .ok (.invokestatic 73, 3) := by decide +kernel
theorem dX5_ticksTillNext_38 : decode cX5_ticksTillNext 38 = .ok (.iaload, 1) := by decide +kernel
theorem dX5_ticksTillNext_39 : decode cX5_ticksTillNext 39 = .ok (.goto 20, 3) := by decide +kernel
theorem dX5_ticksTillNext_42 : decode cX5_ticksTillNext 42 = .ok (.aload_n 0, 1) := by decide +kernel
theorem dX5_ticksTillNext_43 : decode cX5_ticksTillNext 43 = .ok (.getfield 24, 3) := by decide +kernel
theorem dX5_ticksTillNext_46 : decode cX5_ticksTillNext 46 = .ok (.iload_n 3, 1) := by decide +kernel
theorem dX5_ticksTillNext_47 : decode cX5_ticksTillNext 47 = .ok (.aload_n 0, 1) := by decide +kernel
theorem dX5_ticksTillNext_48 : decode cX5_ticksTillNext 48 = .ok (.getfield 18, 3) := by decide +kernel
theorem dX5_ticksTillNext_51 : decode cX5_ticksTillNext 51 = .ok (.iload_n 3, 1) := by decide +kernel
theorem dX5_ticksTillNext_52 : decode cX5_ticksTillNext 52 = .ok (.iaload, 1) := by decide +kernel
theorem dX5_ticksTillNext_53 : decode cX5_ticksTillNext 53 = .ok (.iconst 1, 1) := by decide +kernel
theorem dX5_ticksTillNext_54 : decode cX5_ticksTillNext 54 = .ok (.iadd, 1) := by decide +kernel
theorem dX5_ticksTillNext_55 : decode cX5_ticksTillNext 55 = .ok (.invokestatic 73, 3) := by decide +kernel
theorem dX5_ticksTillNext_58 : decode cX5_ticksTillNext 58 = .ok (.iaload, 1) := by decide +kernel
theorem dX5_ticksTillNext_59 : decode cX5_ticksTillNext 59 = .ok (.istore 5, 2) := by decide +kernel
theorem dX5_ticksTillNext_61 : decode cX5_ticksTillNext 61 = .ok (.iload 5, 2) := by decide +kernel
theorem dX5_ticksTillNext_63 : decode cX5_ticksTillNext 63 = .ok (.aload_n 0, 1) := by decide +kernel
theorem dX5_ticksTillNext_64 : decode cX5_ticksTillNext 64 = .ok (.getfield 51, 3) := by decide +kernel
theorem dX5_ticksTillNext_67 : decode cX5_ticksTillNext 67 = .ok (.isub, 1) := by decide +kernel
theorem dX5_ticksTillNext_68 : decode cX5_ticksTillNext 68 = .ok (.ireturn, 1) := by decide +kernel
theorem dX5_whoReaches_0 : decode cX5_whoReaches 0 = .ok (.iconst 0, 1) := by decide +kernel
theorem dX5_whoReaches_1 : decode cX5_whoReaches 1 = .ok (.istore_n 3, 1) := by decide +kernel
theorem dX5_whoReaches_2 : decode cX5_whoReaches 2 = .ok (.iconst 0, 1) := by decide +kernel
theorem dX5_whoReaches_3 : decode cX5_whoReaches 3 = .ok (.istore 4, 2) := by decide +kernel
theorem dX5_whoReaches_5 : decode cX5_whoReaches 5 = .ok (.iload 4, 2) := by decide +kernel
theorem dX5_whoReaches_7 : decode cX5_whoReaches 7 = .ok (.aload_n 0, 1) := by decide +kernel
theorem dX5_whoReaches_8 : decode cX5_whoReaches 8 = .ok (.getfield 42, 3) := by decide +kernel
theorem dX5_whoReaches_11 : decode cX5_whoReaches 11 = .ok (.if_icmp .ge 34, 3) := by decide +kernel
theorem dX5_whoReaches_14 : decode cX5_whoReaches 14 = .ok (.aload_n 1, 1) := by decide +kernel
theorem dX5_whoReaches_15 : decode cX5_whoReaches 15 = .ok (.aload_n 0, 1) := by decide +kernel
theorem dX5_whoReaches_16 : decode cX5_whoReaches 16 = .ok (.getfield 9, 3) := by decide +kernel
theorem dX5_whoReaches_19 : decode cX5_whoReaches 19 = .ok (.iload 4, 2) := by decide +kernel
theorem dX5_whoReaches_21 : decode cX5_whoReaches 21 = .ok (.iaload, 1) := by decide +kernel
theorem dX5_whoReaches_22 : decode cX5_whoReaches 22 = .ok (.iaload, 1) := by decide +kernel
theorem dX5_whoReaches_23 : decode cX5_whoReaches 23 = .ok (.iload_n 2, 1) := by decide +kernel
theorem dX5_whoReaches_24 : decode cX5_whoReaches 24 = .ok (.if_icmp .lt 15, 3) := by decide +kernel
theorem dX5_whoReaches_27 : decode cX5_whoReaches 27 = .ok (.iload_n 3, 1) := by decide +kernel
theorem dX5_whoReaches_28 : decode cX5_whoReaches 28 = .ok (.iconst 1, 1) := by decide +kernel
theorem dX5_whoReaches_29 : decode cX5_whoReaches 29 = .ok (.aload_n 0, 1) := by decide +kernel
theorem dX5_whoReaches_30 : decode cX5_whoReaches 30 = .ok (.getfield 9, 3) := by decide +kernel
theorem dX5_whoReaches_33 : decode cX5_whoReaches 33 = .ok (.iload 4, 2) := by decide +kernel
theorem dX5_whoReaches_35 : decode cX5_whoReaches 35 = .ok (.iaload, 1) := by decide +kernel
theorem dX5_whoReaches_36 : decode cX5_whoReaches 36 = .ok (.ishl, 1) := by decide +kernel
theorem dX5_whoReaches_37 : decode cX5_whoReaches 37 = .ok (.ior, 1) := by decide +kernel
theorem dX5_whoReaches_38 : decode cX5_whoReaches 38 = .ok (.istore_n 3, 1) := by decide +kernel
theorem dX5_whoReaches_39 : decode cX5_whoReaches 39 = .ok (.iinc 4 1, 3) := by decide +kernel
theorem dX5_whoReaches_42 : decode cX5_whoReaches 42 = .ok (.goto (-37), 3) := by decide +kernel
theorem dX5_whoReaches_45 : decode cX5_whoReaches 45 = .ok (.iload_n 3, 1) := by decide +kernel
theorem dX5_whoReaches_46 : decode cX5_whoReaches 46 = .ok (.ireturn, 1) := by decide +kernel
theorem dX5_latestUpTo_0 : decode cX5_latestUpTo 0 = .ok (.iload_n 2, 1) := by decide +kernel
theorem dX5_latestUpTo_1 : decode cX5_latestUpTo 1 = .ok (.bipush 40, 2) := by decide +kernel
theorem dX5_latestUpTo_3 : decode cX5_latestUpTo 3 = .ok (.invokestatic 76, 3) := by decide +kernel
theorem dX5_latestUpTo_6 : decode cX5_latestUpTo 6 = .ok (.istore_n 3, 1) := by decide +kernel
theorem dX5_latestUpTo_7 : decode cX5_latestUpTo 7 = .ok (.iload_n 3, 1) := by decide +kernel
theorem dX5_latestUpTo_8 : decode cX5_latestUpTo 8 = .ok (.ifCond .le 21, 3) := by decide +kernel
theorem dX5_latestUpTo_11 : decode cX5_latestUpTo 11 = .ok (.aload_n 0, 1) := by decide +kernel
theorem dX5_latestUpTo_12 : decode cX5_latestUpTo 12 = .ok (.getfield 27, 3) := by decide +kernel
theorem dX5_latestUpTo_15 : decode cX5_latestUpTo 15 = .ok (.iload_n 3, 1) := by decide +kernel
theorem dX5_latestUpTo_16 : decode cX5_latestUpTo 16 = .ok (.iaload, 1) := by decide +kernel
theorem dX5_latestUpTo_17 : decode cX5_latestUpTo 17 = .ok (.iload_n 1, 1) := by decide +kernel
theorem dX5_latestUpTo_18 : decode cX5_latestUpTo 18 = .ok (.if_icmp .ne 5, 3) := by decide +kernel
theorem dX5_latestUpTo_21 : decode cX5_latestUpTo 21 = .ok (.iload_n 3, 1) := by decide +kernel
theorem dX5_latestUpTo_22 : decode cX5_latestUpTo 22 = .ok (.ireturn, 1) := by decide +kernel
theorem dX5_latestUpTo_23 : decode cX5_latestUpTo 23 = .ok (.iinc 3 (-1), 3) := by decide +kernel
theorem dX5_latestUpTo_26 : decode cX5_latestUpTo 26 = .ok (.goto (-19), 3) := by decide +kernel
theorem dX5_latestUpTo_29 : decode cX5_latestUpTo 29 = .ok (.iconst 0, 1) := by decide +kernel
theorem dX5_latestUpTo_30 : decode cX5_latestUpTo 30 = .ok (.ireturn, 1) := by decide +kernel
theorem dX5_valueUpTo_0 : decode cX5_valueUpTo 0 = .ok (.aload_n 0, 1) := by decide +kernel
theorem dX5_valueUpTo_1 : decode cX5_valueUpTo 1 = .ok (.iload_n 1, 1) := by decide +kernel
theorem dX5_valueUpTo_2 : decode cX5_valueUpTo 2 = .ok (.iload_n 2, 1) := by decide +kernel
theorem dX5_valueUpTo_3 : decode cX5_valueUpTo 3 = .ok (.invokevirtual 81, 3) := by decide +kernel
theorem dX5_valueUpTo_6 : decode cX5_valueUpTo 6 = .ok (.istore_n 3, 1) := by decide +kernel
theorem dX5_valueUpTo_7 : decode cX5_valueUpTo 7 = .ok (.iload_n 3, 1) := by decide +kernel
theorem dX5_valueUpTo_8 : decode cX5_valueUpTo 8 = .ok (.ifCond .ne 7, 3) := by decide +kernel
theorem dX5_valueUpTo_11 : decode cX5_valueUpTo 11 = .ok (.iconst (-1), 1) := by decide +kernel
theorem dX5_valueUpTo_12 : decode cX5_valueUpTo 12 = .ok (.goto 9, 3) := by decide +kernel
theorem dX5_valueUpTo_15 : decode cX5_valueUpTo 15 = .ok (.aload_n 0, 1) := by decide +kernel
theorem dX5_valueUpTo_16 : decode cX5_valueUpTo 16 = .ok (.getfield 30, 3) := by decide +kernel
theorem dX5_valueUpTo_19 : decode cX5_valueUpTo 19 = .ok (.iload_n 3, 1) := by decide +kernel
theorem dX5_valueUpTo_20 : decode cX5_valueUpTo 20 = .ok (.iaload, 1) := by decide +kernel
theorem dX5_valueUpTo_21 : decode cX5_valueUpTo 21 = .ok (.ireturn, 1) := by decide +kernel
theorem dX5_dirtyOf_0 : decode cX5_dirtyOf 0 = .ok (.iconst 0, 1) := by decide +kernel
theorem dX5_dirtyOf_1 : decode cX5_dirtyOf 1 = .ok (.istore_n 3, 1) := by decide +kernel
theorem dX5_dirtyOf_2 : decode cX5_dirtyOf 2 = .ok (.aload_n 0, 1) := by decide +kernel
theorem dX5_dirtyOf_3 : decode cX5_dirtyOf 3 = .ok (.getfield 18, 3) := by decide +kernel
theorem dX5_dirtyOf_6 : decode cX5_dirtyOf 6 = .ok (.iload_n 1, 1) := by decide +kernel
theorem dX5_dirtyOf_7 : decode cX5_dirtyOf 7 = .ok (.iaload, 1) := by decide +kernel
theorem dX5_dirtyOf_8 : decode cX5_dirtyOf 8 = .ok (.iconst 1, 1) := by decide +kernel
theorem dX5_dirtyOf_9 : decode cX5_dirtyOf 9 = .ok (.iadd, 1) := by decide +kernel
theorem dX5_dirtyOf_10 : decode cX5_dirtyOf 10 = .ok (.istore 4, 2) := by decide +kernel
theorem dX5_dirtyOf_12 : decode cX5_dirtyOf 12 = .ok (.iload 4, 2) := by decide +kernel
theorem dX5_dirtyOf_14 : decode cX5_dirtyOf 14 = .ok (.aload_n 0, 1) := by decide +kernel
theorem dX5_dirtyOf_15 : decode cX5_dirtyOf 15 = .ok (.getfield 15, 3) := by decide +kernel
theorem dX5_dirtyOf_18 : decode cX5_dirtyOf 18 = .ok (.iload_n 1, 1) := by decide +kernel
theorem dX5_dirtyOf_19 : decode cX5_dirtyOf 19 = .ok (.iaload, 1) := by decide +kernel
theorem dX5_dirtyOf_20 : decode cX5_dirtyOf 20 = .ok (.if_icmp .gt 23, 3) := by decide +kernel
theorem dX5_dirtyOf_23 : decode cX5_dirtyOf 23 = .ok (.aload_n 0, 1) := by decide +kernel
theorem dX5_dirtyOf_24 : decode cX5_dirtyOf 24 = .ok (.getfield 27, 3) := by decide +kernel
theorem dX5_dirtyOf_27 : decode cX5_dirtyOf 27 = .ok (.iload 4, 2) := by decide +kernel
theorem dX5_dirtyOf_29 : decode cX5_dirtyOf 29 = .ok (.iaload, 1) := by decide +kernel
theorem dX5_dirtyOf_30 : decode cX5_dirtyOf 30 = .ok (.iload_n 2, 1) := by decide +kernel
theorem dX5_dirtyOf_31 : decode cX5_dirtyOf 31 = .ok (.if_icmp .ne 6, 3) := by decide +kernel
theorem dX5_dirtyOf_34 : decode cX5_dirtyOf 34 = .ok (.iinc 3 1, 3) := by decide +kernel
theorem dX5_dirtyOf_37 : decode cX5_dirtyOf 37 = .ok (.iinc 4 1, 3) := by decide +kernel
theorem dX5_dirtyOf_40 : decode cX5_dirtyOf 40 = .ok (.goto (-28), 3) := by decide +kernel
theorem dX5_dirtyOf_43 : decode cX5_dirtyOf 43 = .ok (.iload_n 3, 1) := by decide +kernel
theorem dX5_dirtyOf_44 : decode cX5_dirtyOf 44 = .ok (.ireturn, 1) := by decide +kernel
theorem dX5_versionsOf_0 : decode cX5_versionsOf 0 = .ok (.aload_n 0, 1) := by decide +kernel
theorem dX5_versionsOf_1 : decode cX5_versionsOf 1 = .ok (.iload_n 2, 1) := by decide +kernel
theorem dX5_versionsOf_2 : decode cX5_versionsOf 2 = .ok (.aload_n 0, 1) := by decide +kernel
theorem dX5_versionsOf_3 : decode cX5_versionsOf 3 = .ok (.getfield 18, 3) := by decide +kernel
theorem dX5_versionsOf_6 : decode cX5_versionsOf 6 = .ok (.iload_n 1, 1) := by decide +kernel
theorem dX5_versionsOf_7 : decode cX5_versionsOf 7 = .ok (.iaload, 1) := by decide +kernel
theorem dX5_versionsOf_8 : decode cX5_versionsOf 8 = .ok (.invokevirtual 81, 3) := by decide +kernel
theorem dX5_versionsOf_11 : decode cX5_versionsOf 11 = .ok (.ifCond .le 7, 3) := by decide +kernel
theorem dX5_versionsOf_14 : decode cX5_versionsOf 14 = .ok (.iconst 1, 1) := by decide +kernel
theorem dX5_versionsOf_15 : decode cX5_versionsOf 15 = .ok (.goto 4, 3) := by decide +kernel
theorem dX5_versionsOf_18 : decode cX5_versionsOf 18 = .ok (.iconst 0, 1) := by decide +kernel
theorem dX5_versionsOf_19 : decode cX5_versionsOf 19 = .ok (.aload_n 0, 1) := by decide +kernel
theorem dX5_versionsOf_20 : decode cX5_versionsOf 20 = .ok (.iload_n 1, 1) := by decide +kernel
theorem dX5_versionsOf_21 : decode cX5_versionsOf 21 = .ok (.iload_n 2, 1) := by decide +kernel
theorem dX5_versionsOf_22 : decode cX5_versionsOf 22 = .ok (.invokevirtual 84, 3) := by decide +kernel
theorem dX5_versionsOf_25 : decode cX5_versionsOf 25 = .ok (.iadd, 1) := by decide +kernel
theorem dX5_versionsOf_26 : decode cX5_versionsOf 26 = .ok (.ireturn, 1) := by decide +kernel
theorem dX5_droppedWithout_0 : decode cX5_droppedWithout 0 = .ok (.iconst 0, 1) := by decide +kernel
theorem dX5_droppedWithout_1 : decode cX5_droppedWithout 1 = .ok (.istore_n 2, 1) := by decide +kernel
theorem dX5_droppedWithout_2 : decode cX5_droppedWithout 2 = .ok (.iconst 0, 1) := by decide +kernel
theorem dX5_droppedWithout_3 : decode cX5_droppedWithout 3 = .ok (.istore_n 3, 1) := by decide +kernel
theorem dX5_droppedWithout_4 : decode cX5_droppedWithout 4 = .ok (.iload_n 3, 1) := by decide +kernel
theorem dX5_droppedWithout_5 : decode cX5_droppedWithout 5 = .ok (.aload_n 0, 1) := by decide +kernel
theorem dX5_droppedWithout_6 : decode cX5_droppedWithout 6 = .ok (.getfield 42, 3) := by decide +kernel
theorem dX5_droppedWithout_9 : decode cX5_droppedWithout 9 = .ok (.if_icmp .ge 38, 3) := by decide +kernel
theorem dX5_droppedWithout_12 : decode cX5_droppedWithout 12 = .ok (.iload_n 1, 1) := by decide +kernel
theorem dX5_droppedWithout_13 : decode cX5_droppedWithout 13 = .ok (.aload_n 0, 1) := by decide +kernel
theorem dX5_droppedWithout_14 : decode cX5_droppedWithout 14 = .ok (.getfield 9, 3) := by decide +kernel
theorem dX5_droppedWithout_17 : decode cX5_droppedWithout 17 = .ok (.iload_n 3, 1) := by decide +kernel
theorem dX5_droppedWithout_18 : decode cX5_droppedWithout 18 = .ok (.iaload, 1) := by decide +kernel
theorem dX5_droppedWithout_19 : decode cX5_droppedWithout 19 = .ok (.ishr, 1) := by decide +kernel
theorem dX5_droppedWithout_20 : decode cX5_droppedWithout 20 = .ok (.iconst 1, 1) := by decide +kernel
theorem dX5_droppedWithout_21 : decode cX5_droppedWithout 21 = .ok (.iand, 1) := by decide +kernel
theorem dX5_droppedWithout_22 : decode cX5_droppedWithout 22 = .ok (.ifCond .ne 19, 3) := by decide +kernel
theorem dX5_droppedWithout_25 : decode cX5_droppedWithout 25 = .ok (.iload_n 2, 1) := by decide +kernel
theorem dX5_droppedWithout_26 : decode cX5_droppedWithout 26 = .ok (.aload_n 0, 1) := by decide +kernel
theorem dX5_droppedWithout_27 : decode cX5_droppedWithout 27 = .ok (.getfield 15, 3) := by decide +kernel
theorem dX5_droppedWithout_30 : decode cX5_droppedWithout 30 = .ok (.aload_n 0, 1) := by decide +kernel
theorem dX5_droppedWithout_31 : decode cX5_droppedWithout 31 = .ok (.getfield 9, 3) := by decide +kernel
theorem dX5_droppedWithout_34 : decode cX5_droppedWithout 34 = .ok (.iload_n 3, 1) := by decide +kernel
theorem dX5_droppedWithout_35 : decode cX5_droppedWithout 35 = .ok (.iaload, 1) := by decide +kernel
theorem dX5_droppedWithout_36 : decode cX5_droppedWithout 36 = .ok (.iaload, 1) := by decide +kernel
theorem dX5_droppedWithout_37 : decode cX5_droppedWithout 37 = .ok (.invokestatic 87, 3) := by decide +kernel
theorem dX5_droppedWithout_40 : decode cX5_droppedWithout 40 = .ok (.istore_n 2, 1) := by decide +kernel
theorem dX5_droppedWithout_41 : decode cX5_droppedWithout 41 = .ok (.iinc 3 1, 3) := by decide +kernel
theorem dX5_droppedWithout_44 : decode cX5_droppedWithout 44 = .ok (.goto (-40), 3) := by decide +kernel
theorem dX5_droppedWithout_47 : decode cX5_droppedWithout 47 = .ok (.aload_n 0, 1) := by decide +kernel
theorem dX5_droppedWithout_48 : decode cX5_droppedWithout 48 = .ok (.invokevirtual 90, 3) := by decide +kernel
theorem dX5_droppedWithout_51 : decode cX5_droppedWithout 51 = .ok (.iload_n 2, 1) := by decide +kernel
theorem dX5_droppedWithout_52 : decode cX5_droppedWithout 52 = .ok (.isub, 1) := by decide +kernel
theorem dX5_droppedWithout_53 : decode cX5_droppedWithout 53 = .ok (.ireturn, 1) := by decide +kernel
theorem dX6_init_0 : decode cX6_init 0 = .ok (.aload_n 0, 1) := by decide +kernel
theorem dX6_init_1 : decode cX6_init 1 = .ok (.invokespecial 1, 3) := by decide +kernel
theorem dX6_init_4 : decode cX6_init 4 = .ok (.aload_n 0, 1) := by decide +kernel
theorem dX6_init_5 : decode cX6_init 5 = .ok (.sipush 1600, 3) := by decide +kernel
theorem dX6_init_8 : decode cX6_init 8 = .ok (.newarray .byte, 2) := by decide +kernel
theorem dX6_init_10 : decode cX6_init 10 = .ok (.putfield 9, 3) := by decide +kernel
theorem dX6_init_13 : decode cX6_init 13 = .ok (.aload_n 0, 1) := by decide +kernel
theorem dX6_init_14 : decode cX6_init 14 = .ok (.new 13, 3) := by decide +kernel
theorem dX6_init_17 : decode cX6_init 17 = .ok (.dup, 1) := by decide +kernel
theorem dX6_init_18 : decode cX6_init 18 = .ok (.invokespecial 15, 3) := by decide +kernel
theorem dX6_init_21 : decode cX6_init 21 = .ok (.putfield 16, 3) := by decide +kernel
theorem dX6_init_24 : decode cX6_init 24 = .ok (.aload_n 0, 1) := by decide +kernel
theorem dX6_init_25 : decode cX6_init 25 = .ok (.new 13, 3) := by decide +kernel
theorem dX6_init_28 : decode cX6_init 28 = .ok (.dup, 1) := by decide +kernel
theorem dX6_init_29 : decode cX6_init 29 = .ok (.invokespecial 15, 3) := by decide +kernel
theorem dX6_init_32 : decode cX6_init 32 = .ok (.putfield 20, 3) := by decide +kernel
theorem dX6_init_35 : decode cX6_init 35 = .ok (.aload_n 0, 1) := by decide +kernel
theorem dX6_init_36 : decode cX6_init 36 = .ok (.new 23, 3) := by decide +kernel
theorem dX6_init_39 : decode cX6_init 39 = .ok (.dup, 1) := by decide +kernel
theorem dX6_init_40 : decode cX6_init 40 = .ok (.aload_n 0, 1) := by decide +kernel
theorem dX6_init_41 : decode cX6_init 41 = .ok (.getfield 9, 3) := by decide +kernel
theorem dX6_init_44 : decode cX6_init 44 = .ok (.aload_n 0, 1) := by decide +kernel
theorem dX6_init_45 : decode cX6_init 45 = .ok (.getfield 20, 3) := by decide +kernel
theorem dX6_init_48 : decode cX6_init 48 = .ok (.invokespecial 25, 3) := by decide +kernel
theorem dX6_init_51 : decode cX6_init 51 = .ok (.putfield 28, 3) := by decide +kernel
theorem dX6_init_54 : decode cX6_init 54 = .ok (.aload_n 0, 1) := by decide +kernel
theorem dX6_init_55 : decode cX6_init 55 = .ok (.new 32, 3) := by decide +kernel
theorem dX6_init_58 : decode cX6_init 58 = .ok (.dup, 1) := by decide +kernel
theorem dX6_init_59 : decode cX6_init 59 = .ok (.aload_n 0, 1) := by decide +kernel
theorem dX6_init_60 : decode cX6_init 60 = .ok (.getfield 16, 3) := by decide +kernel
theorem dX6_init_63 : decode cX6_init 63 = .ok (.invokespecial 34, 3) := by decide +kernel
theorem dX6_init_66 : decode cX6_init 66 = .ok (.putfield 37, 3) := by decide +kernel
theorem dX6_init_69 : decode cX6_init 69 = .ok (.aload_n 0, 1) := by decide +kernel
theorem dX6_init_70 : decode cX6_init 70 = .ok (.bipush 41, 2) := by decide +kernel
theorem dX6_init_72 : decode cX6_init 72 = .ok (.anewarray 41, 3) := by decide +kernel
theorem dX6_init_75 : decode cX6_init 75 = .ok (.putfield 43, 3) := by decide +kernel
theorem dX6_init_78 : decode cX6_init 78 = .ok (.aload_n 0, 1) := by decide +kernel
theorem dX6_init_79 : decode cX6_init 79 = .ok (.new 41, 3) := by decide +kernel
theorem dX6_init_82 : decode cX6_init 82 = .ok (.dup, 1) := by decide +kernel
theorem dX6_init_83 : decode cX6_init 83 = .ok (.invokespecial 47, 3) := by decide +kernel
theorem dX6_init_86 : decode cX6_init 86 = .ok (.putfield 48, 3) := by decide +kernel
theorem dX6_init_89 : decode cX6_init 89 = .ok (.aload_n 0, 1) := by decide +kernel
theorem dX6_init_90 : decode cX6_init 90 = .ok (.iconst 3, 1) := by decide +kernel
theorem dX6_init_91 : decode cX6_init 91 = .ok (.anewarray 41, 3) := by decide +kernel
theorem dX6_init_94 : decode cX6_init 94 = .ok (.putfield 52, 3) := by decide +kernel
theorem dX6_init_97 : decode cX6_init 97 = .ok (.aload_n 0, 1) := by decide +kernel
theorem dX6_init_98 : decode cX6_init 98 = .ok (.iconst 3, 1) := by decide +kernel
theorem dX6_init_99 : decode cX6_init 99 = .ok (.newarray .boolean, 2) := by decide +kernel
theorem dX6_init_101 : decode cX6_init 101 = .ok (.putfield 55, 3) := by decide +kernel
theorem dX6_init_104 : decode cX6_init 104 = .ok (.aload_n 0, 1) := by decide +kernel
theorem dX6_init_105 : decode cX6_init 105 = .ok (.bipush 6, 2) := by decide +kernel
theorem dX6_init_107 : decode cX6_init 107 = .ok (.newarray .int, 2) := by decide +kernel
theorem dX6_init_109 : decode cX6_init 109 = .ok (.putfield 59, 3) := by decide +kernel
theorem dX6_init_112 : decode cX6_init 112 = .ok (.aload_n 0, 1) := by decide +kernel
theorem dX6_init_113 : decode cX6_init 113 = .ok (.bipush 6, 2) := by decide +kernel
theorem dX6_init_115 : decode cX6_init 115 = .ok (.newarray .int, 2) := by decide +kernel
theorem dX6_init_117 : decode cX6_init 117 = .ok (.putfield 63, 3) := by decide +kernel
theorem dX6_init_120 : decode cX6_init 120 = .ok (.aload_n 0, 1) := by decide +kernel
theorem dX6_init_121 : decode cX6_init 121 = .ok (.new 66, 3) := by decide +kernel
theorem dX6_init_124 : decode cX6_init 124 = .ok (.dup, 1) := by decide +kernel
theorem dX6_init_125 : decode cX6_init 125 = .ok (.invokespecial 68, 3) := by decide +kernel
theorem dX6_init_128 : decode cX6_init 128 = .ok (.putfield 69, 3) := by decide +kernel
theorem dX6_init_131 : decode cX6_init 131 = .ok (.aload_n 0, 1) := by decide +kernel
theorem dX6_init_132 : decode cX6_init 132 = .ok (.bipush 7, 2) := by decide +kernel
theorem dX6_init_134 : decode cX6_init 134 = .ok (.newarray .int, 2) := by decide +kernel
theorem dX6_init_136 : decode cX6_init 136 = .ok (.putfield 73, 3) := by decide +kernel
theorem dX6_init_139 : decode cX6_init 139 = .ok (.aload_n 0, 1) := by decide +kernel
theorem dX6_init_140 : decode cX6_init 140 = .ok (.invokevirtual 76, 3) := by decide +kernel
theorem dX6_init_143 : decode cX6_init 143 = .ok (.return_, 1) := by decide +kernel
theorem dX6_feed_0 : decode cX6_feed 0 = .ok (.aload_n 0, 1) := by decide +kernel
theorem dX6_feed_1 : decode cX6_feed 1 = .ok (.getfield 79, 3) := by decide +kernel
theorem dX6_feed_4 : decode cX6_feed 4 = .ok (.bipush 20, 2) := by decide +kernel
theorem dX6_feed_6 : decode cX6_feed 6 = .ok (.iadd, 1) := by decide +kernel
theorem dX6_feed_7 : decode cX6_feed 7 = .ok (.sipush 1600, 3) := by decide +kernel
theorem dX6_feed_10 : decode cX6_feed 10 = .ok (.if_icmp .le 5, 3) := by decide +kernel
theorem dX6_feed_13 : decode cX6_feed 13 = .ok (.iconst (-1), 1) := by decide +kernel
theorem dX6_feed_14 : decode cX6_feed 14 = .ok (.ireturn, 1) := by decide +kernel
theorem dX6_feed_15 : decode cX6_feed 15 = .ok (.aload_n 0, 1) := by decide +kernel
theorem dX6_feed_16 : decode cX6_feed 16 = .ok (.iload_n 1, 1) := by decide +kernel
theorem dX6_feed_17 : decode cX6_feed 17 = .ok (.invokevirtual 83, 3) := by decide +kernel
theorem dX6_feed_20 : decode cX6_feed 20 = .ok (.aload_n 0, 1) := by decide +kernel
theorem dX6_feed_21 : decode cX6_feed 21 = .ok (.iload_n 2, 1) := by decide +kernel
theorem dX6_feed_22 : decode cX6_feed 22 = .ok (.invokevirtual 83, 3) := by decide +kernel
theorem dX6_feed_25 : decode cX6_feed 25 = .ok (.aload_n 0, 1) := by decide +kernel
theorem dX6_feed_26 : decode cX6_feed 26 = .ok (.iload_n 3, 1) := by decide +kernel
theorem dX6_feed_27 : decode cX6_feed 27 = .ok (.invokevirtual 83, 3) := by decide +kernel
theorem dX6_feed_30 : decode cX6_feed 30 = .ok (.aload_n 0, 1) := by decide +kernel
theorem dX6_feed_31 : decode cX6_feed 31 = .ok (.iload 4, 2) := by decide +kernel
theorem dX6_feed_33 : decode cX6_feed 33 = .ok (.invokevirtual 83, 3) := by decide +kernel
theorem dX6_feed_36 : decode cX6_feed 36 = .ok (.aload_n 0, 1) := by decide +kernel
theorem dX6_feed_37 : decode cX6_feed 37 = .ok (.iload 5, 2) := by decide +kernel
theorem dX6_feed_39 : decode cX6_feed 39 = .ok (.invokevirtual 83, 3) := by decide +kernel
theorem dX6_feed_42 : decode cX6_feed 42 = .ok (.aload_n 0, 1) := by decide +kernel
theorem dX6_feed_43 : decode cX6_feed 43 = .ok (.getfield 79, 3) := by decide +kernel
theorem dX6_feed_46 : decode cX6_feed 46 = .ok (.ireturn, 1) := by decide +kernel
theorem dX6_layFour_0 : decode cX6_layFour 0 = .ok (.bipush 24, 2) := by decide +kernel
theorem dX6_layFour_2 : decode cX6_layFour 2 = .ok (.istore_n 2, 1) := by decide +kernel
theorem dX6_layFour_3 : decode cX6_layFour 3 = .ok (.iload_n 2, 1) := by decide +kernel
theorem dX6_layFour_4 : decode cX6_layFour 4 = .ok (.ifCond .lt 44, 3) := by decide +kernel
theorem dX6_layFour_7 : decode cX6_layFour 7 = .ok (.aload_n 0, 1) := by decide +kernel
theorem dX6_layFour_8 : decode cX6_layFour 8 = .ok (.getfield 79, 3) := by decide +kernel
theorem dX6_layFour_11 : decode cX6_layFour 11 = .ok (.aload_n 0, 1) := by decide +kernel
theorem dX6_layFour_12 : decode cX6_layFour 12 = .ok (.getfield 9, 3) := by decide +kernel
theorem dX6_layFour_15 : decode cX6_layFour 15 = .ok (.arraylength, 1) := by decide +kernel
theorem dX6_layFour_16 : decode cX6_layFour 16 = .ok (.if_icmp .ge 26, 3) := by decide +kernel
theorem dX6_layFour_19 : decode cX6_layFour 19 = .ok (.aload_n 0, 1) := by decide +kernel
theorem dX6_layFour_20 : decode cX6_layFour 20 = .ok (.getfield 9, 3) := by decide +kernel
theorem dX6_layFour_23 : decode cX6_layFour 23 = .ok (.aload_n 0, 1) := by decide +kernel
theorem dX6_layFour_24 : decode cX6_layFour 24 = .ok (.getfield 79, 3) := by decide +kernel
theorem dX6_layFour_27 : decode cX6_layFour 27 = .ok (.iload_n 1, 1) := by decide +kernel
theorem dX6_layFour_28 : decode cX6_layFour 28 = .ok (.iload_n 2, 1) := by decide +kernel
theorem dX6_layFour_29 : decode cX6_layFour 29 = .ok (.iushr, 1) := by decide +kernel
theorem dX6_layFour_30 : decode cX6_layFour 30 = .ok (.i2b, 1) := by decide +kernel
theorem dX6_layFour_31 : decode cX6_layFour 31 = .ok (.bastore, 1) := by decide +kernel
theorem dX6_layFour_32 : decode cX6_layFour 32 = .ok (.aload_n 0, 1) := by decide +kernel
theorem dX6_layFour_33 : decode cX6_layFour 33 = .ok (.dup, 1) := by decide +kernel
theorem dX6_layFour_34 : decode cX6_layFour 34 = .ok (.getfield 79, 3) := by decide +kernel
theorem dX6_layFour_37 : decode cX6_layFour 37 = .ok (.iconst 1, 1) := by decide +kernel
theorem dX6_layFour_38 : decode cX6_layFour 38 = .ok (.iadd, 1) := by decide +kernel
theorem dX6_layFour_39 : decode cX6_layFour 39 = .ok (.putfield 79, 3) := by decide +kernel
theorem dX6_layFour_42 : decode cX6_layFour 42 = .ok (.iinc 2 (-8), 3) := by decide +kernel
theorem dX6_layFour_45 : decode cX6_layFour 45 = .ok (.goto (-42), 3) := by decide +kernel
theorem dX6_layFour_48 : decode cX6_layFour 48 = .ok (.return_, 1) := by decide +kernel
theorem dX6_end_0 : decode cX6_end 0 = .ok (.iload_n 1, 1) := by decide +kernel
theorem dX6_end_1 : decode cX6_end 1 = .ok (.ifCond .lt 11, 3) := by decide +kernel
theorem dX6_end_4 : decode cX6_end 4 = .ok (.iload_n 1, 1) := by decide +kernel
theorem dX6_end_5 : decode cX6_end 5 = .ok (.aload_n 0, 1) := by decide +kernel
theorem dX6_end_6 : decode cX6_end 6 = .ok (.getfield 79, 3) := by decide +kernel
theorem dX6_end_9 : decode cX6_end 9 = .ok (.if_icmp .le 5, 3) := by decide +kernel
theorem dX6_end_12 : decode cX6_end 12 = .ok (.iconst (-1), 1) := by decide +kernel
theorem dX6_end_13 : decode cX6_end 13 = .ok (.ireturn, 1) := by decide +kernel
theorem dX6_end_14 : decode cX6_end 14 = .ok (.aload_n 0, 1) := by decide +kernel
theorem dX6_end_15 : decode cX6_end 15 = .ok (.iload_n 1, 1) := by decide +kernel
theorem dX6_end_16 : decode cX6_end 16 = .ok (.putfield 79, 3) := by decide +kernel
theorem dX6_end_19 : decode cX6_end 19 = .ok (.iload_n 1, 1) := by decide +kernel
theorem dX6_end_20 : decode cX6_end 20 = .ok (.ireturn, 1) := by decide +kernel
theorem dX6_chain_0 : decode cX6_chain 0 = .ok (.aload_n 0, 1) := by decide +kernel
theorem dX6_chain_1 : decode cX6_chain 1 = .ok (.getfield 28, 3) := by decide +kernel
theorem dX6_chain_4 : decode cX6_chain 4 = .ok (.aload_n 0, 1) := by decide +kernel
theorem dX6_chain_5 : decode cX6_chain 5 = .ok (.getfield 79, 3) := by decide +kernel
theorem dX6_chain_8 : decode cX6_chain 8 = .ok (.aload_n 0, 1) := by decide +kernel
theorem dX6_chain_9 : decode cX6_chain 9 = .ok (.getfield 20, 3) := by decide +kernel
theorem dX6_chain_12 : decode cX6_chain 12 = .ok (.invokevirtual 87, 3) := by decide +kernel
theorem dX6_chain_15 : decode cX6_chain 15 = .ok (.ifCond .ne 5, 3) := by decide +kernel
theorem dX6_chain_18 : decode cX6_chain 18 = .ok (.iconst (-1), 1) := by decide +kernel
theorem dX6_chain_19 : decode cX6_chain 19 = .ok (.ireturn, 1) := by decide +kernel
theorem dX6_chain_20 : decode cX6_chain 20 = .ok (.aload_n 0, 1) := by decide +kernel
theorem dX6_chain_21 : decode cX6_chain 21 = .ok (.getfield 16, 3) := by decide +kernel
theorem dX6_chain_24 : decode cX6_chain 24 = .ok (.astore_n 1, 1) := by decide +kernel
theorem dX6_chain_25 : decode cX6_chain 25 = .ok (.aload_n 0, 1) := by decide +kernel
theorem dX6_chain_26 : decode cX6_chain 26 = .ok (.aload_n 0, 1) := by decide +kernel
theorem dX6_chain_27 : decode cX6_chain 27 = .ok (.getfield 20, 3) := by decide +kernel
theorem dX6_chain_30 : decode cX6_chain 30 = .ok (.putfield 16, 3) := by decide +kernel
theorem dX6_chain_33 : decode cX6_chain 33 = .ok (.aload_n 0, 1) := by decide +kernel
theorem dX6_chain_34 : decode cX6_chain 34 = .ok (.aload_n 1, 1) := by decide +kernel
theorem dX6_chain_35 : decode cX6_chain 35 = .ok (.putfield 20, 3) := by decide +kernel
theorem dX6_chain_38 : decode cX6_chain 38 = .ok (.aload_n 0, 1) := by decide +kernel
theorem dX6_chain_39 : decode cX6_chain 39 = .ok (.iconst 0, 1) := by decide +kernel
theorem dX6_chain_40 : decode cX6_chain 40 = .ok (.putfield 79, 3) := by decide +kernel
theorem dX6_chain_43 : decode cX6_chain 43 = .ok (.aload_n 0, 1) := by decide +kernel
theorem dX6_chain_44 : decode cX6_chain 44 = .ok (.invokevirtual 76, 3) := by decide +kernel
theorem dX6_chain_47 : decode cX6_chain 47 = .ok (.aload_n 0, 1) := by decide +kernel
theorem dX6_chain_48 : decode cX6_chain 48 = .ok (.invokevirtual 91, 3) := by decide +kernel
theorem dX6_chain_51 : decode cX6_chain 51 = .ok (.aload_n 0, 1) := by decide +kernel
theorem dX6_chain_52 : decode cX6_chain 52 = .ok (.getfield 16, 3) := by decide +kernel
theorem dX6_chain_55 : decode cX6_chain 55 = .ok (.getfield 94, 3) := by decide +kernel
theorem dX6_chain_58 : decode cX6_chain 58 = .ok (.ireturn, 1) := by decide +kernel
theorem dX6_begin_0 : decode cX6_begin 0 = .ok (.aload_n 0, 1) := by decide +kernel
theorem dX6_begin_1 : decode cX6_begin 1 = .ok (.getfield 37, 3) := by decide +kernel
theorem dX6_begin_4 : decode cX6_begin 4 = .ok (.aload_n 0, 1) := by decide +kernel
theorem dX6_begin_5 : decode cX6_begin 5 = .ok (.getfield 16, 3) := by decide +kernel
theorem dX6_begin_8 : decode cX6_begin 8 = .ok (.invokevirtual 97, 3) := by decide +kernel
theorem dX6_begin_11 : decode cX6_begin 11 = .ok (.aload_n 0, 1) := by decide +kernel
theorem dX6_begin_12 : decode cX6_begin 12 = .ok (.iconst 0, 1) := by decide +kernel
theorem dX6_begin_13 : decode cX6_begin 13 = .ok (.putfield 100, 3) := by decide +kernel
theorem dX6_begin_16 : decode cX6_begin 16 = .ok (.aload_n 0, 1) := by decide +kernel
theorem dX6_begin_17 : decode cX6_begin 17 = .ok (.iconst 0, 1) := by decide +kernel
theorem dX6_begin_18 : decode cX6_begin 18 = .ok (.putfield 103, 3) := by decide +kernel
theorem dX6_begin_21 : decode cX6_begin 21 = .ok (.aload_n 0, 1) := by decide +kernel
theorem dX6_begin_22 : decode cX6_begin 22 = .ok (.aload_n 0, 1) := by decide +kernel
theorem dX6_begin_23 : decode cX6_begin 23 = .ok (.iconst 0, 1) := by decide +kernel
theorem dX6_begin_24 : decode cX6_begin 24 = .ok (.invokevirtual 106, 3) := by decide +kernel
theorem dX6_begin_27 : decode cX6_begin 27 = .ok (.putfield 110, 3) := by decide +kernel
theorem dX6_begin_30 : decode cX6_begin 30 = .ok (.aload_n 0, 1) := by decide +kernel
theorem dX6_begin_31 : decode cX6_begin 31 = .ok (.getfield 110, 3) := by decide +kernel
theorem dX6_begin_34 : decode cX6_begin 34 = .ok (.aload_n 0, 1) := by decide +kernel
theorem dX6_begin_35 : decode cX6_begin 35 = .ok (.getfield 16, 3) := by decide +kernel
theorem dX6_begin_38 : decode cX6_begin 38 = .ok (.invokevirtual 113, 3) := by decide +kernel
theorem dX6_begin_41 : decode cX6_begin 41 = .ok (.iconst 0, 1) := by decide +kernel
theorem dX6_begin_42 : decode cX6_begin 42 = .ok (.istore_n 1, 1) := by decide +kernel
theorem dX6_begin_43 : decode cX6_begin 43 = .ok (.iload_n 1, 1) := by decide +kernel
theorem dX6_begin_44 : decode cX6_begin 44 = .ok (.iconst 3, 1) := by decide +kernel
theorem dX6_begin_45 : decode cX6_begin 45 = .ok (.if_icmp .ge 16, 3) := by decide +kernel
theorem dX6_begin_48 : decode cX6_begin 48 = .ok (.aload_n 0, 1) := by decide +kernel
theorem dX6_begin_49 : decode cX6_begin 49 = .ok (.getfield 55, 3) := by decide +kernel
theorem dX6_begin_52 : decode cX6_begin 52 = .ok (.iload_n 1, 1) := by decide +kernel
theorem dX6_begin_53 : decode cX6_begin 53 = .ok (.iconst 0, 1) := by decide +kernel
theorem dX6_begin_54 : decode cX6_begin 54 = .ok (.bastore, 1) := by decide +kernel
theorem dX6_begin_55 : decode cX6_begin 55 = .ok (.iinc 1 1, 3) := by decide +kernel
theorem dX6_begin_58 : decode cX6_begin 58 = .ok (.goto (-15), 3) := by decide +kernel
theorem dX6_begin_61 : decode cX6_begin 61 = .ok (.aload_n 0, 1) := by decide +kernel
theorem dX6_begin_62 : decode cX6_begin 62 = .ok (.iconst 0, 1) := by decide +kernel
theorem dX6_begin_63 : decode cX6_begin 63 = .ok (.putfield 116, 3) := by decide +kernel
theorem dX6_begin_66 : decode cX6_begin 66 = .ok (.aload_n 0, 1) := by decide +kernel
theorem dX6_begin_67 : decode cX6_begin 67 = .ok (.getfield 69, 3) := by decide +kernel
theorem dX6_begin_70 : decode cX6_begin 70 = .ok (.invokevirtual 119, 3) := by decide +kernel
theorem dX6_begin_73 : decode cX6_begin 73 = .ok (.return_, 1) := by decide +kernel
theorem dX6_stateAt_0 : decode cX6_stateAt 0 = .ok (.aload_n 0, 1) := by decide +kernel
theorem dX6_stateAt_1 : decode cX6_stateAt 1 = .ok (.getfield 43, 3) := by decide +kernel
theorem dX6_stateAt_4 : decode cX6_stateAt 4 = .ok (.iload_n 1, 1) := by decide +kernel
theorem dX6_stateAt_5 : decode cX6_stateAt 5 = .ok (.aaload, 1) := by decide +kernel
theorem dX6_stateAt_6 : decode cX6_stateAt 6 = .ok (.astore_n 2, 1) := by decide +kernel
theorem dX6_stateAt_7 : decode cX6_stateAt 7 = .ok (.aload_n 2, 1) := by decide +kernel
theorem dX6_stateAt_8 : decode cX6_stateAt 8 = .ok (.ifnonnull 18, 3) := by decide +kernel
theorem dX6_stateAt_11 : decode cX6_stateAt 11 = .ok (.new 41, 3) := by decide +kernel
theorem dX6_stateAt_14 : decode cX6_stateAt 14 = .ok (.dup, 1) := by decide +kernel
theorem dX6_stateAt_15 : decode cX6_stateAt 15 = .ok (.invokespecial 47, 3) := by decide +kernel
theorem dX6_stateAt_18 : decode cX6_stateAt 18 = .ok (.astore_n 2, 1) := by decide +kernel
theorem dX6_stateAt_19 : decode cX6_stateAt 19 = .ok (.aload_n 0, 1) := by decide +kernel
theorem dX6_stateAt_20 : decode cX6_stateAt 20 = .ok (.getfield 43, 3) := by decide +kernel
theorem dX6_stateAt_23 : decode cX6_stateAt 23 = .ok (.iload_n 1, 1) := by decide +kernel
theorem dX6_stateAt_24 : decode cX6_stateAt 24 = .ok (.aload_n 2, 1) := by decide +kernel
theorem dX6_stateAt_25 : decode cX6_stateAt 25 = .ok (.aastore, 1) := by decide +kernel
theorem dX6_stateAt_26 : decode cX6_stateAt 26 = .ok (.aload_n 2, 1) := by decide +kernel
theorem dX6_stateAt_27 : decode cX6_stateAt 27 = .ok (.areturn, 1) := by decide +kernel
theorem dX6_findAnswerTimes_0 : decode cX6_findAnswerTimes 0 = .ok (.iconst 0, 1) := by decide +kernel
theorem dX6_findAnswerTimes_1 : decode cX6_findAnswerTimes 1 = .ok (.istore_n 1, 1) := by decide +kernel
theorem dX6_findAnswerTimes_2 : decode cX6_findAnswerTimes 2 = .ok (.iload_n 1, 1) := by decide +kernel
theorem dX6_findAnswerTimes_3 : decode cX6_findAnswerTimes 3 = .ok (.aload_n 0, 1) := by decide +kernel
theorem dX6_findAnswerTimes_4 : decode cX6_findAnswerTimes 4 = .ok (.invokevirtual 122, 3) := by decide +kernel
theorem dX6_findAnswerTimes_7 : decode cX6_findAnswerTimes 7 = .ok (.if_icmp .ge 86, 3) := by decide +kernel
theorem dX6_findAnswerTimes_10 : decode cX6_findAnswerTimes 10 = .ok (.iload_n 1, 1) := by decide +kernel
theorem dX6_findAnswerTimes_11 : decode cX6_findAnswerTimes 11 = .ok (.iconst 1, 1) := by decide +kernel
theorem dX6_findAnswerTimes_12 : decode cX6_findAnswerTimes 12 = .ok (.isub, 1) := by decide +kernel
theorem dX6_findAnswerTimes_13 : decode cX6_findAnswerTimes 13 = .ok (.istore_n 2, 1) := by decide +kernel
theorem dX6_findAnswerTimes_14 : decode cX6_findAnswerTimes 14 = .ok (.iconst 0, 1) := by decide +kernel
theorem dX6_findAnswerTimes_15 : decode cX6_findAnswerTimes 15 = .ok (.istore_n 3, 1) := by decide +kernel
theorem dX6_findAnswerTimes_16 : decode cX6_findAnswerTimes 16 = .ok (.iconst 0, 1) := by decide +kernel
theorem dX6_findAnswerTimes_17 : decode cX6_findAnswerTimes 17 = .ok (.istore 4, 2) := by decide +kernel
theorem dX6_findAnswerTimes_19 : decode cX6_findAnswerTimes 19 = .ok (.iload 4, 2) := by decide +kernel
theorem dX6_findAnswerTimes_21 : decode cX6_findAnswerTimes 21 = .ok (.aload_n 0, 1) := by decide +kernel
theorem dX6_findAnswerTimes_22 : decode cX6_findAnswerTimes 22 = .ok (.getfield 16, 3) := by decide +kernel
theorem dX6_findAnswerTimes_25 : decode cX6_findAnswerTimes 25 = .ok (.getfield 94, 3) := by decide +kernel
theorem dX6_findAnswerTimes_28 : decode cX6_findAnswerTimes 28 = .ok (.if_icmp .ge 34, 3) := by decide +kernel
theorem dX6_findAnswerTimes_31 : decode cX6_findAnswerTimes 31 = .ok (.iload 4, 2) := by decide +kernel
theorem dX6_findAnswerTimes_33 : decode cX6_findAnswerTimes 33 = .ok (.iload_n 2, 1) := by decide +kernel
theorem dX6_findAnswerTimes_34 : decode cX6_findAnswerTimes 34 = .ok (.if_icmp .eq 22, 3) := by decide +kernel
theorem dX6_findAnswerTimes_37 : decode cX6_findAnswerTimes 37 = .ok (.aload_n 0, 1) := by decide +kernel
theorem dX6_findAnswerTimes_38 : decode cX6_findAnswerTimes 38 = .ok (.getfield 63, 3) := by decide +kernel
theorem dX6_findAnswerTimes_41 : decode cX6_findAnswerTimes 41 = .ok (.iload_n 3, 1) := by decide +kernel
theorem dX6_findAnswerTimes_42 : decode cX6_findAnswerTimes 42 = .ok (.aload_n 0, 1) := by decide +kernel
theorem dX6_findAnswerTimes_43 : decode cX6_findAnswerTimes 43 = .ok (.getfield 16, 3) := by decide +kernel
theorem dX6_findAnswerTimes_46 : decode cX6_findAnswerTimes 46 = .ok (.getfield 126, 3) := by decide +kernel
theorem dX6_findAnswerTimes_49 : decode cX6_findAnswerTimes 49 = .ok (.iload 4, 2) := by decide +kernel
theorem dX6_findAnswerTimes_51 : decode cX6_findAnswerTimes 51 = .ok (.iaload, 1) := by decide +kernel
theorem dX6_findAnswerTimes_52 : decode cX6_findAnswerTimes 52 = .ok (.iastore, 1) := by decide +kernel
theorem dX6_findAnswerTimes_53 : decode cX6_findAnswerTimes 53 = .ok (.iinc 3 1, 3) := by decide +kernel
theorem dX6_findAnswerTimes_56 : decode cX6_findAnswerTimes 56 = .ok (.iinc 4 1, 3) := by decide +kernel
theorem dX6_findAnswerTimes_59 : decode cX6_findAnswerTimes 59 = .ok (.goto (-40), 3) := by decide +kernel
theorem dX6_findAnswerTimes_62 : decode cX6_findAnswerTimes 62 = .ok (.aload_n 0, 1) := by decide +kernel
theorem dX6_findAnswerTimes_63 : decode cX6_findAnswerTimes 63 = .ok (.getfield 73, 3) := by decide +kernel
theorem dX6_findAnswerTimes_66 : decode cX6_findAnswerTimes 66 = .ok (.iload_n 1, 1) := by decide +kernel
theorem dX6_findAnswerTimes_67 : decode cX6_findAnswerTimes 67 = .ok (.iload_n 2, 1) := by decide +kernel
theorem dX6_findAnswerTimes_68 : decode cX6_findAnswerTimes 68 = .ok (.ifCond .ne 8, 3) := by decide +kernel
theorem dX6_findAnswerTimes_71 : decode cX6_findAnswerTimes 71 = .ok (.ldc 129, 2) := by decide +kernel
theorem dX6_findAnswerTimes_73 : decode cX6_findAnswerTimes 73 = .ok (.goto 13, 3) := by decide +kernel
theorem dX6_findAnswerTimes_76 : decode cX6_findAnswerTimes 76 = .ok (.aload_n 0, 1) := by decide +kernel
theorem dX6_findAnswerTimes_77 : decode cX6_findAnswerTimes 77 = .ok (.iload_n 3, 1) := by decide +kernel
theorem dX6_findAnswerTimes_78 : decode cX6_findAnswerTimes 78 = .ok (.aload_n 0, 1) := by decide +kernel
theorem dX6_findAnswerTimes_79 : decode cX6_findAnswerTimes 79 = .ok (.iload_n 3, 1) := by decide +kernel
theorem dX6_findAnswerTimes_80 : decode cX6_findAnswerTimes 80 = .ok (.invokevirtual 130, 3) := by decide +kernel
theorem dX6_findAnswerTimes_83 : decode cX6_findAnswerTimes 83 = .ok (.invokevirtual 134, 3) := by decide +kernel
theorem dX6_findAnswerTimes_86 : decode cX6_findAnswerTimes 86 = .ok (.iastore, 1) := by decide +kernel
theorem dX6_findAnswerTimes_87 : decode cX6_findAnswerTimes 87 = .ok (.iinc 1 1, 3) := by decide +kernel
theorem dX6_findAnswerTimes_90 : decode cX6_findAnswerTimes 90 = .ok (.goto (-88), 3) := by decide +kernel
theorem dX6_findAnswerTimes_93 : decode cX6_findAnswerTimes 93 = .ok (.return_, 1) := by decide +kernel
theorem dX6_ticksThere_0 : decode cX6_ticksThere 0 = .ok (.iconst 0, 1) := by decide +kernel
theorem dX6_ticksThere_1 : decode cX6_ticksThere 1 = .ok (.istore_n 2, 1) := by decide +kernel
theorem dX6_ticksThere_2 : decode cX6_ticksThere 2 = .ok (.iconst 1, 1) := by decide +kernel
theorem dX6_ticksThere_3 : decode cX6_ticksThere 3 = .ok (.istore_n 3, 1) := by decide +kernel
theorem dX6_ticksThere_4 : decode cX6_ticksThere 4 = .ok (.iload_n 3, 1) := by decide +kernel
theorem dX6_ticksThere_5 : decode cX6_ticksThere 5 = .ok (.iload_n 1, 1) := by decide +kernel
theorem dX6_ticksThere_6 : decode cX6_ticksThere 6 = .ok (.if_icmp .ge 48, 3) := by decide +kernel
theorem dX6_ticksThere_9 : decode cX6_ticksThere 9 = .ok (.iload_n 2, 1) := by decide +kernel
theorem dX6_ticksThere_10 : decode cX6_ticksThere 10 = .ok (.aload_n 0, 1) := by decide +kernel
theorem dX6_ticksThere_11 : decode cX6_ticksThere 11 = .ok (.getfield 16, 3) := by decide +kernel
theorem dX6_ticksThere_14 : decode cX6_ticksThere 14 = .ok (.getfield 138, 3) := by decide +kernel
theorem dX6_ticksThere_17 : decode cX6_ticksThere 17 = .ok (.aload_n 0, 1) := by decide +kernel
theorem dX6_ticksThere_18 : decode cX6_ticksThere 18 = .ok (.getfield 63, 3) := by decide +kernel
theorem dX6_ticksThere_21 : decode cX6_ticksThere 21 = .ok (.iload_n 3, 1) := by decide +kernel
theorem dX6_ticksThere_22 : decode cX6_ticksThere 22 = .ok (.iconst 1, 1) := by decide +kernel
theorem dX6_ticksThere_23 : decode cX6_ticksThere 23 = .ok (.isub, 1) := by decide +kernel
theorem dX6_ticksThere_24 : decode cX6_ticksThere 24 = .ok (.iaload, 1) := by decide +kernel
theorem dX6_ticksThere_25 : decode cX6_ticksThere 25 = .ok (.aload_n 0, 1) := by decide +kernel
theorem dX6_ticksThere_26 : decode cX6_ticksThere 26 = .ok (.getfield 63, 3) := by decide +kernel
theorem dX6_ticksThere_29 : decode cX6_ticksThere 29 = .ok (.iload_n 3, 1) := by decide +kernel
theorem dX6_ticksThere_30 : decode cX6_ticksThere 30 = .ok (.iaload, 1) := by decide +kernel
theorem dX6_ticksThere_31 : decode cX6_ticksThere 31 = .ok (.iconst 1, 1) := by decide +kernel
theorem dX6_ticksThere_32 : decode cX6_ticksThere 32 = .ok (.iconst 0, 1) := by decide +kernel
theorem dX6_ticksThere_33 : decode cX6_ticksThere 33 = .ok (.iconst 0, 1) := by decide +kernel
theorem dX6_ticksThere_34 : decode cX6_ticksThere 34 = .ok (.aload_n 0, 1) := by decide +kernel
theorem dX6_ticksThere_35 : decode cX6_ticksThere 35 = .ok (.getfield 110, 3) := by decide +kernel
theorem dX6_ticksThere_38 : decode cX6_ticksThere 38 = .ok (.getfield 142, 3) := by decide +kernel
theorem dX6_ticksThere_41 : decode cX6_ticksThere 41 = .ok (.iload_n 2, 1) := by decide +kernel
theorem dX6_ticksThere_42 : decode cX6_ticksThere 42 = .ok (.iadd, 1) := by decide +kernel
theorem dX6_ticksThere_43 : decode cX6_ticksThere 43 = .ok (.invokevirtual 145, 3) := by decide +kernel
theorem dX6_ticksThere_46 : decode cX6_ticksThere 46 = .ok (.iadd, 1) := by decide +kernel
theorem dX6_ticksThere_47 : decode cX6_ticksThere 47 = .ok (.istore_n 2, 1) := by decide +kernel
theorem dX6_ticksThere_48 : decode cX6_ticksThere 48 = .ok (.iinc 3 1, 3) := by decide +kernel
theorem dX6_ticksThere_51 : decode cX6_ticksThere 51 = .ok (.goto (-47), 3) := by decide +kernel
theorem dX6_ticksThere_54 : decode cX6_ticksThere 54 = .ok (.iload_n 2, 1) := by decide +kernel
theorem dX6_ticksThere_55 : decode cX6_ticksThere 55 = .ok (.ireturn, 1) := by decide +kernel
theorem dX6_ticksBack_0 : decode cX6_ticksBack 0 = .ok (.iload_n 2, 1) := by decide +kernel
theorem dX6_ticksBack_1 : decode cX6_ticksBack 1 = .ok (.istore_n 3, 1) := by decide +kernel
theorem dX6_ticksBack_2 : decode cX6_ticksBack 2 = .ok (.iload_n 1, 1) := by decide +kernel
theorem dX6_ticksBack_3 : decode cX6_ticksBack 3 = .ok (.iconst 1, 1) := by decide +kernel
theorem dX6_ticksBack_4 : decode cX6_ticksBack 4 = .ok (.isub, 1) := by decide +kernel
theorem dX6_ticksBack_5 : decode cX6_ticksBack 5 = .ok (.istore 4, 2) := by decide +kernel
theorem dX6_ticksBack_7 : decode cX6_ticksBack 7 = .ok (.iload 4, 2) := by decide +kernel
theorem dX6_ticksBack_9 : decode cX6_ticksBack 9 = .ok (.ifCond .le 50, 3) := by decide +kernel
theorem dX6_ticksBack_12 : decode cX6_ticksBack 12 = .ok (.iload_n 3, 1) := by decide +kernel
theorem dX6_ticksBack_13 : decode cX6_ticksBack 13 = .ok (.aload_n 0, 1) := by decide +kernel
theorem dX6_ticksBack_14 : decode cX6_ticksBack 14 = .ok (.getfield 16, 3) := by decide +kernel
theorem dX6_ticksBack_17 : decode cX6_ticksBack 17 = .ok (.getfield 138, 3) := by decide +kernel
theorem dX6_ticksBack_20 : decode cX6_ticksBack 20 = .ok (.aload_n 0, 1) := by decide +kernel
theorem dX6_ticksBack_21 : decode cX6_ticksBack 21 = .ok (.getfield 63, 3) := by decide +kernel
theorem dX6_ticksBack_24 : decode cX6_ticksBack 24 = .ok (.iload 4, 2) := by decide +kernel
theorem dX6_ticksBack_26 : decode cX6_ticksBack 26 = .ok (.iaload, 1) := by decide +kernel
theorem dX6_ticksBack_27 : decode cX6_ticksBack 27 = .ok (.aload_n 0, 1) := by decide +kernel
theorem dX6_ticksBack_28 : decode cX6_ticksBack 28 = .ok (.getfield 63, 3) := by decide +kernel
theorem dX6_ticksBack_31 : decode cX6_ticksBack 31 = .ok (.iload 4, 2) := by decide +kernel
theorem dX6_ticksBack_33 : decode cX6_ticksBack 33 = .ok (.iconst 1, 1) := by decide +kernel
theorem dX6_ticksBack_34 : decode cX6_ticksBack 34 = .ok (.isub, 1) := by decide +kernel
theorem dX6_ticksBack_35 : decode cX6_ticksBack 35 = .ok (.iaload, 1) := by decide +kernel
theorem dX6_ticksBack_36 : decode cX6_ticksBack 36 = .ok (.iconst 1, 1) := by decide +kernel
theorem dX6_ticksBack_37 : decode cX6_ticksBack 37 = .ok (.iconst 0, 1) := by decide +kernel
theorem dX6_ticksBack_38 : decode cX6_ticksBack 38 = .ok (.iconst 1, 1) := by decide +kernel
theorem dX6_ticksBack_39 : decode cX6_ticksBack 39 = .ok (.aload_n 0, 1) := by decide +kernel
theorem dX6_ticksBack_40 : decode cX6_ticksBack 40 = .ok (.getfield 110, 3) := by decide +kernel
theorem dX6_ticksBack_43 : decode cX6_ticksBack 43 = .ok (.getfield 142, 3) := by decide +kernel
theorem dX6_ticksBack_46 : decode cX6_ticksBack 46 = .ok (.iload_n 3, 1) := by decide +kernel
theorem dX6_ticksBack_47 : decode cX6_ticksBack 47 = .ok (.iadd, 1) := by decide +kernel
theorem dX6_ticksBack_48 : decode cX6_ticksBack 48 = .ok (.invokevirtual 145, 3) := by decide +kernel
theorem dX6_ticksBack_51 : decode cX6_ticksBack 51 = .ok (.iadd, 1) := by decide +kernel
theorem dX6_ticksBack_52 : decode cX6_ticksBack 52 = .ok (.istore_n 3, 1) := by decide +kernel
theorem dX6_ticksBack_53 : decode cX6_ticksBack 53 = .ok (.iinc 4 (-1), 3) := by decide +kernel
theorem dX6_ticksBack_56 : decode cX6_ticksBack 56 = .ok (.goto (-49), 3) := by decide +kernel
theorem dX6_ticksBack_59 : decode cX6_ticksBack 59 = .ok (.iload_n 3, 1) := by decide +kernel
theorem dX6_ticksBack_60 : decode cX6_ticksBack 60 = .ok (.ireturn, 1) := by decide +kernel
theorem dX6_scenarios_0 : decode cX6_scenarios 0 = .ok (.aload_n 0, 1) := by decide +kernel
theorem dX6_scenarios_1 : decode cX6_scenarios 1 = .ok (.getfield 16, 3) := by decide +kernel
theorem dX6_scenarios_4 : decode cX6_scenarios 4 = .ok (.getfield 94, 3) := by decide +kernel
theorem dX6_scenarios_7 : decode cX6_scenarios 7 = .ok (.iconst 2, 1) := by decide +kernel
theorem dX6_scenarios_8 : decode cX6_scenarios 8 = .ok (.if_icmp .ge 13, 3) := by decide +kernel
theorem dX6_scenarios_11 : decode cX6_scenarios 11 = .ok (.aload_n 0, 1) := by decide +kernel
theorem dX6_scenarios_12 : decode cX6_scenarios 12 = .ok (.getfield 16, 3) := by decide +kernel
theorem dX6_scenarios_15 : decode cX6_scenarios 15 = .ok (.getfield 94, 3) := by decide +kernel
theorem dX6_scenarios_18 : decode cX6_scenarios 18 = .ok (.goto 12, 3) := by decide +kernel
theorem dX6_scenarios_21 : decode cX6_scenarios 21 = .ok (.aload_n 0, 1) := by decide +kernel
theorem dX6_scenarios_22 : decode cX6_scenarios 22 = .ok (.getfield 16, 3) := by decide +kernel
theorem dX6_scenarios_25 : decode cX6_scenarios 25 = .ok (.getfield 94, 3) := by decide +kernel
theorem dX6_scenarios_28 : decode cX6_scenarios 28 = .ok (.iconst 1, 1) := by decide +kernel
theorem dX6_scenarios_29 : decode cX6_scenarios 29 = .ok (.iadd, 1) := by decide +kernel
theorem dX6_scenarios_30 : decode cX6_scenarios 30 = .ok (.ireturn, 1) := by decide +kernel
theorem dX6_fault_0 : decode cX6_fault 0 = .ok (.iload_n 1, 1) := by decide +kernel
theorem dX6_fault_1 : decode cX6_fault 1 = .ok (.lookupswitch 43 #[(0, 27), (1, 35)], 27) := by decide +kernel
theorem dX6_fault_28 : decode cX6_fault 28 = .ok (.aload_n 0, 1) := by decide +kernel
theorem dX6_fault_29 : decode cX6_fault 29 = .ok (.getfield 28, 3) := by decide +kernel
theorem dX6_fault_32 : decode cX6_fault 32 = .ok (.getfield 151, 3) := by decide +kernel
theorem dX6_fault_35 : decode cX6_fault 35 = .ok (.ireturn, 1) := by decide +kernel
theorem dX6_fault_36 : decode cX6_fault 36 = .ok (.aload_n 0, 1) := by decide +kernel
theorem dX6_fault_37 : decode cX6_fault 37 = .ok (.getfield 28, 3) := by decide +kernel
theorem dX6_fault_40 : decode cX6_fault 40 = .ok (.getfield 154, 3) := by decide +kernel
theorem dX6_fault_43 : decode cX6_fault 43 = .ok (.ireturn, 1) := by decide +kernel
theorem dX6_fault_44 : decode cX6_fault 44 = .ok (.iconst (-1), 1) := by decide +kernel
theorem dX6_fault_45 : decode cX6_fault 45 = .ok (.ireturn, 1) := by decide +kernel
theorem dX6_row_0 : decode cX6_row 0 = .ok (.iload_n 1, 1) := by decide +kernel
theorem dX6_row_1 : decode cX6_row 1 = .ok (.ifCond .lt 14, 3) := by decide +kernel
theorem dX6_row_4 : decode cX6_row 4 = .ok (.iload_n 1, 1) := by decide +kernel
theorem dX6_row_5 : decode cX6_row 5 = .ok (.aload_n 0, 1) := by decide +kernel
theorem dX6_row_6 : decode cX6_row 6 = .ok (.getfield 110, 3) := by decide +kernel
theorem dX6_row_9 : decode cX6_row 9 = .ok (.getfield 157, 3) := by decide +kernel
theorem dX6_row_12 : decode cX6_row 12 = .ok (.if_icmp .lt 7, 3) := by decide +kernel
theorem dX6_row_15 : decode cX6_row 15 = .ok (.iconst (-1), 1) := by decide +kernel
theorem dX6_row_16 : decode cX6_row 16 = .ok (.goto 12, 3) := by decide +kernel
theorem dX6_row_19 : decode cX6_row 19 = .ok (.aload_n 0, 1) := by decide +kernel
theorem dX6_row_20 : decode cX6_row 20 = .ok (.getfield 110, 3) := by decide +kernel
theorem dX6_row_23 : decode cX6_row 23 = .ok (.getfield 160, 3) := by decide +kernel
theorem dX6_row_26 : decode cX6_row 26 = .ok (.iload_n 1, 1) := by decide +kernel
theorem dX6_row_27 : decode cX6_row 27 = .ok (.iaload, 1) := by decide +kernel
theorem dX6_row_28 : decode cX6_row 28 = .ok (.ireturn, 1) := by decide +kernel
theorem dX6_node_0 : decode cX6_node 0 = .ok (.aload_n 0, 1) := by decide +kernel
theorem dX6_node_1 : decode cX6_node 1 = .ok (.iload_n 1, 1) := by decide +kernel
theorem dX6_node_2 : decode cX6_node 2 = .ok (.invokevirtual 163, 3) := by decide +kernel
theorem dX6_node_5 : decode cX6_node 5 = .ok (.ifCond .ne 6, 3) := by decide +kernel
theorem dX6_node_8 : decode cX6_node 8 = .ok (.bipush (-2), 2) := by decide +kernel
theorem dX6_node_10 : decode cX6_node 10 = .ok (.ireturn, 1) := by decide +kernel
theorem dX6_node_11 : decode cX6_node 11 = .ok (.iload_n 2, 1) := by decide +kernel
theorem dX6_node_12 : decode cX6_node 12 = .ok (.tableswitch 102 0 4 #[36, 45, 55, 65, 85], 36) := by decide +kernel
theorem dX6_node_48 : decode cX6_node 48 = .ok (.aload_n 0, 1) := by decide +kernel
theorem dX6_node_49 : decode cX6_node 49 = .ok (.getfield 110, 3) := by decide +kernel
theorem dX6_node_52 : decode cX6_node 52 = .ok (.iload_n 1, 1) := by decide +kernel
theorem dX6_node_53 : decode cX6_node 53 = .ok (.invokevirtual 167, 3) := by decide +kernel
theorem dX6_node_56 : decode cX6_node 56 = .ok (.ireturn, 1) := by decide +kernel
theorem dX6_node_57 : decode cX6_node 57 = .ok (.aload_n 0, 1) := by decide +kernel
theorem dX6_node_58 : decode cX6_node 58 = .ok (.getfield 110, 3) := by decide +kernel
theorem dX6_node_61 : decode cX6_node 61 = .ok (.getfield 170, 3) := by decide +kernel
theorem dX6_node_64 : decode cX6_node 64 = .ok (.iload_n 1, 1) := by decide +kernel
theorem dX6_node_65 : decode cX6_node 65 = .ok (.iaload, 1) := by decide +kernel
theorem dX6_node_66 : decode cX6_node 66 = .ok (.ireturn, 1) := by decide +kernel
theorem dX6_node_67 : decode cX6_node 67 = .ok (.aload_n 0, 1) := by decide +kernel
theorem dX6_node_68 : decode cX6_node 68 = .ok (.getfield 110, 3) := by decide +kernel
theorem dX6_node_71 : decode cX6_node 71 = .ok (.getfield 173, 3) := by decide +kernel
theorem dX6_node_74 : decode cX6_node 74 = .ok (.iload_n 1, 1) := by decide +kernel
theorem dX6_node_75 : decode cX6_node 75 = .ok (.iaload, 1) := by decide +kernel
theorem dX6_node_76 : decode cX6_node 76 = .ok (.ireturn, 1) := by decide +kernel
theorem dX6_node_77 : decode cX6_node 77 = .ok (.aload_n 0, 1) := by decide +kernel
theorem dX6_node_78 : decode cX6_node 78 = .ok (.getfield 110, 3) := by decide +kernel
theorem dX6_node_81 : decode cX6_node 81 = .ok (.getfield 170, 3) := by decide +kernel
theorem dX6_node_84 : decode cX6_node 84 = .ok (.iload_n 1, 1) := by decide +kernel
theorem dX6_node_85 : decode cX6_node 85 = .ok (.iaload, 1) := by decide +kernel
theorem dX6_node_86 : decode cX6_node 86 = .ok (.aload_n 0, 1) := by decide +kernel
theorem dX6_node_87 : decode cX6_node 87 = .ok (.getfield 110, 3) := by decide +kernel
theorem dX6_node_90 : decode cX6_node 90 = .ok (.getfield 173, 3) := by decide +kernel
theorem dX6_node_93 : decode cX6_node 93 = .ok (.iload_n 1, 1) := by decide +kernel
theorem dX6_node_94 : decode cX6_node 94 = .ok (.iaload, 1) := by decide +kernel
theorem dX6_node_95 : decode cX6_node 95 = .ok (.isub, 1) := by decide +kernel
theorem dX6_node_96 : decode cX6_node 96 = .ok (.ireturn, 1) := by decide +kernel
theorem dX6_node_97 : decode cX6_node 97 = .ok (.aload_n 0, 1) := by decide +kernel
theorem dX6_node_98 : decode cX6_node 98 = .ok (.getfield 110, 3) := by decide +kernel
theorem dX6_node_101 : decode cX6_node 101 = .ok (.getfield 176, 3) := by decide +kernel
theorem dX6_node_104 : decode cX6_node 104 = .ok (.iload_n 1, 1) := by decide +kernel
theorem dX6_node_105 : decode cX6_node 105 = .ok (.if_icmp .ne 7, 3) := by decide +kernel
theorem dX6_node_108 : decode cX6_node 108 = .ok (.iconst 1, 1) := by decide +kernel
theorem dX6_node_109 : decode cX6_node 109 = .ok (.goto 4, 3) := by decide +kernel
theorem dX6_node_112 : decode cX6_node 112 = .ok (.iconst 0, 1) := by decide +kernel
theorem dX6_node_113 : decode cX6_node 113 = .ok (.ireturn, 1) := by decide +kernel
theorem dX6_node_114 : decode cX6_node 114 = .ok (.bipush (-2), 2) := by decide +kernel
theorem dX6_node_116 : decode cX6_node 116 = .ok (.ireturn, 1) := by decide +kernel
theorem dX6_isNode_0 : decode cX6_isNode 0 = .ok (.iload_n 1, 1) := by decide +kernel
theorem dX6_isNode_1 : decode cX6_isNode 1 = .ok (.ifCond .lt 18, 3) := by decide +kernel
theorem dX6_isNode_4 : decode cX6_isNode 4 = .ok (.iload_n 1, 1) := by decide +kernel
theorem dX6_isNode_5 : decode cX6_isNode 5 = .ok (.aload_n 0, 1) := by decide +kernel
theorem dX6_isNode_6 : decode cX6_isNode 6 = .ok (.getfield 16, 3) := by decide +kernel
theorem dX6_isNode_9 : decode cX6_isNode 9 = .ok (.getfield 179, 3) := by decide +kernel
theorem dX6_isNode_12 : decode cX6_isNode 12 = .ok (.if_icmp .ge 7, 3) := by decide +kernel
theorem dX6_isNode_15 : decode cX6_isNode 15 = .ok (.iconst 1, 1) := by decide +kernel
theorem dX6_isNode_16 : decode cX6_isNode 16 = .ok (.goto 4, 3) := by decide +kernel
theorem dX6_isNode_19 : decode cX6_isNode 19 = .ok (.iconst 0, 1) := by decide +kernel
theorem dX6_isNode_20 : decode cX6_isNode 20 = .ok (.ireturn, 1) := by decide +kernel
theorem dX6_isKey_0 : decode cX6_isKey 0 = .ok (.iload_n 1, 1) := by decide +kernel
theorem dX6_isKey_1 : decode cX6_isKey 1 = .ok (.ifCond .lt 18, 3) := by decide +kernel
theorem dX6_isKey_4 : decode cX6_isKey 4 = .ok (.iload_n 1, 1) := by decide +kernel
theorem dX6_isKey_5 : decode cX6_isKey 5 = .ok (.aload_n 0, 1) := by decide +kernel
theorem dX6_isKey_6 : decode cX6_isKey 6 = .ok (.getfield 16, 3) := by decide +kernel
theorem dX6_isKey_9 : decode cX6_isKey 9 = .ok (.getfield 182, 3) := by decide +kernel
theorem dX6_isKey_12 : decode cX6_isKey 12 = .ok (.if_icmp .ge 7, 3) := by decide +kernel
theorem dX6_isKey_15 : decode cX6_isKey 15 = .ok (.iconst 1, 1) := by decide +kernel
theorem dX6_isKey_16 : decode cX6_isKey 16 = .ok (.goto 4, 3) := by decide +kernel
theorem dX6_isKey_19 : decode cX6_isKey 19 = .ok (.iconst 0, 1) := by decide +kernel
theorem dX6_isKey_20 : decode cX6_isKey 20 = .ok (.ireturn, 1) := by decide +kernel
theorem dX6_isMember_0 : decode cX6_isMember 0 = .ok (.aload_n 0, 1) := by decide +kernel
theorem dX6_isMember_1 : decode cX6_isMember 1 = .ok (.iload_n 1, 1) := by decide +kernel
theorem dX6_isMember_2 : decode cX6_isMember 2 = .ok (.invokevirtual 163, 3) := by decide +kernel
theorem dX6_isMember_5 : decode cX6_isMember 5 = .ok (.ifCond .eq 18, 3) := by decide +kernel
theorem dX6_isMember_8 : decode cX6_isMember 8 = .ok (.aload_n 0, 1) := by decide +kernel
theorem dX6_isMember_9 : decode cX6_isMember 9 = .ok (.getfield 110, 3) := by decide +kernel
theorem dX6_isMember_12 : decode cX6_isMember 12 = .ok (.iload_n 1, 1) := by decide +kernel
theorem dX6_isMember_13 : decode cX6_isMember 13 = .ok (.invokevirtual 167, 3) := by decide +kernel
theorem dX6_isMember_16 : decode cX6_isMember 16 = .ok (.ifCond .lt 7, 3) := by decide +kernel
theorem dX6_isMember_19 : decode cX6_isMember 19 = .ok (.iconst 1, 1) := by decide +kernel
theorem dX6_isMember_20 : decode cX6_isMember 20 = .ok (.goto 4, 3) := by decide +kernel
theorem dX6_isMember_23 : decode cX6_isMember 23 = .ok (.iconst 0, 1) := by decide +kernel
theorem dX6_isMember_24 : decode cX6_isMember 24 = .ok (.ireturn, 1) := by decide +kernel
theorem dX6_under_0 : decode cX6_under 0 = .ok (.aload_n 0, 1) := by decide +kernel
theorem dX6_under_1 : decode cX6_under 1 = .ok (.iload_n 1, 1) := by decide +kernel
theorem dX6_under_2 : decode cX6_under 2 = .ok (.iload_n 2, 1) := by decide +kernel
theorem dX6_under_3 : decode cX6_under 3 = .ok (.invokevirtual 185, 3) := by decide +kernel
theorem dX6_under_6 : decode cX6_under 6 = .ok (.ifCond .eq 15, 3) := by decide +kernel
theorem dX6_under_9 : decode cX6_under 9 = .ok (.aload_n 0, 1) := by decide +kernel
theorem dX6_under_10 : decode cX6_under 10 = .ok (.getfield 110, 3) := by decide +kernel
theorem dX6_under_13 : decode cX6_under 13 = .ok (.iload_n 1, 1) := by decide +kernel
theorem dX6_under_14 : decode cX6_under 14 = .ok (.iload_n 2, 1) := by decide +kernel
theorem dX6_under_15 : decode cX6_under 15 = .ok (.invokevirtual 189, 3) := by decide +kernel
theorem dX6_under_18 : decode cX6_under 18 = .ok (.goto 4, 3) := by decide +kernel
theorem dX6_under_21 : decode cX6_under 21 = .ok (.iconst (-1), 1) := by decide +kernel
theorem dX6_under_22 : decode cX6_under 22 = .ok (.ireturn, 1) := by decide +kernel
theorem dX6_isLink_0 : decode cX6_isLink 0 = .ok (.iload_n 1, 1) := by decide +kernel
theorem dX6_isLink_1 : decode cX6_isLink 1 = .ok (.ifCond .lt 29, 3) := by decide +kernel
theorem dX6_isLink_4 : decode cX6_isLink 4 = .ok (.iload_n 1, 1) := by decide +kernel
theorem dX6_isLink_5 : decode cX6_isLink 5 = .ok (.aload_n 0, 1) := by decide +kernel
theorem dX6_isLink_6 : decode cX6_isLink 6 = .ok (.getfield 110, 3) := by decide +kernel
theorem dX6_isLink_9 : decode cX6_isLink 9 = .ok (.getfield 157, 3) := by decide +kernel
theorem dX6_isLink_12 : decode cX6_isLink 12 = .ok (.iconst 1, 1) := by decide +kernel
theorem dX6_isLink_13 : decode cX6_isLink 13 = .ok (.isub, 1) := by decide +kernel
theorem dX6_isLink_14 : decode cX6_isLink 14 = .ok (.if_icmp .ge 16, 3) := by decide +kernel
theorem dX6_isLink_17 : decode cX6_isLink 17 = .ok (.iload_n 2, 1) := by decide +kernel
theorem dX6_isLink_18 : decode cX6_isLink 18 = .ok (.ifCond .eq 8, 3) := by decide +kernel
theorem dX6_isLink_21 : decode cX6_isLink 21 = .ok (.iload_n 2, 1) := by decide +kernel
theorem dX6_isLink_22 : decode cX6_isLink 22 = .ok (.iconst 1, 1) := by decide +kernel
theorem dX6_isLink_23 : decode cX6_isLink 23 = .ok (.if_icmp .ne 7, 3) := by decide +kernel
theorem dX6_isLink_26 : decode cX6_isLink 26 = .ok (.iconst 1, 1) := by decide +kernel
theorem dX6_isLink_27 : decode cX6_isLink 27 = .ok (.goto 4, 3) := by decide +kernel
theorem dX6_isLink_30 : decode cX6_isLink 30 = .ok (.iconst 0, 1) := by decide +kernel
theorem dX6_isLink_31 : decode cX6_isLink 31 = .ok (.ireturn, 1) := by decide +kernel
theorem dX6_due_0 : decode cX6_due 0 = .ok (.aload_n 0, 1) := by decide +kernel
theorem dX6_due_1 : decode cX6_due 1 = .ok (.iload_n 1, 1) := by decide +kernel
theorem dX6_due_2 : decode cX6_due 2 = .ok (.iload_n 2, 1) := by decide +kernel
theorem dX6_due_3 : decode cX6_due 3 = .ok (.invokevirtual 185, 3) := by decide +kernel
theorem dX6_due_6 : decode cX6_due 6 = .ok (.ifCond .eq 15, 3) := by decide +kernel
theorem dX6_due_9 : decode cX6_due 9 = .ok (.aload_n 0, 1) := by decide +kernel
theorem dX6_due_10 : decode cX6_due 10 = .ok (.getfield 110, 3) := by decide +kernel
theorem dX6_due_13 : decode cX6_due 13 = .ok (.iload_n 1, 1) := by decide +kernel
theorem dX6_due_14 : decode cX6_due 14 = .ok (.iload_n 2, 1) := by decide +kernel
theorem dX6_due_15 : decode cX6_due 15 = .ok (.invokevirtual 189, 3) := by decide +kernel
theorem dX6_due_18 : decode cX6_due 18 = .ok (.ifCond .ne 5, 3) := by decide +kernel
theorem dX6_due_21 : decode cX6_due 21 = .ok (.iconst (-1), 1) := by decide +kernel
theorem dX6_due_22 : decode cX6_due 22 = .ok (.ireturn, 1) := by decide +kernel
theorem dX6_due_23 : decode cX6_due 23 = .ok (.aload_n 0, 1) := by decide +kernel
theorem dX6_due_24 : decode cX6_due 24 = .ok (.getfield 110, 3) := by decide +kernel
theorem dX6_due_27 : decode cX6_due 27 = .ok (.iload_n 1, 1) := by decide +kernel
theorem dX6_due_28 : decode cX6_due 28 = .ok (.iload_n 2, 1) := by decide +kernel
theorem dX6_due_29 : decode cX6_due 29 = .ok (.invokevirtual 192, 3) := by decide +kernel
theorem dX6_due_32 : decode cX6_due 32 = .ok (.ireturn, 1) := by decide +kernel
theorem dX6_wrote_0 : decode cX6_wrote 0 = .ok (.iload_n 1, 1) := by decide +kernel
theorem dX6_wrote_1 : decode cX6_wrote 1 = .ok (.iconst 1, 1) := by decide +kernel
theorem dX6_wrote_2 : decode cX6_wrote 2 = .ok (.if_icmp .lt 14, 3) := by decide +kernel
theorem dX6_wrote_5 : decode cX6_wrote 5 = .ok (.iload_n 1, 1) := by decide +kernel
theorem dX6_wrote_6 : decode cX6_wrote 6 = .ok (.aload_n 0, 1) := by decide +kernel
theorem dX6_wrote_7 : decode cX6_wrote 7 = .ok (.getfield 110, 3) := by decide +kernel
theorem dX6_wrote_10 : decode cX6_wrote 10 = .ok (.invokevirtual 195, 3) := by decide +kernel
theorem dX6_wrote_13 : decode cX6_wrote 13 = .ok (.if_icmp .le 5, 3) := by decide +kernel
theorem dX6_wrote_16 : decode cX6_wrote 16 = .ok (.iconst (-1), 1) := by decide +kernel
theorem dX6_wrote_17 : decode cX6_wrote 17 = .ok (.ireturn, 1) := by decide +kernel
theorem dX6_wrote_18 : decode cX6_wrote 18 = .ok (.iload_n 2, 1) := by decide +kernel
theorem dX6_wrote_19 : decode cX6_wrote 19 = .ok (.tableswitch 102 0 4 #[33, 43, 53, 70, 86], 33) := by decide +kernel
theorem dX6_wrote_52 : decode cX6_wrote 52 = .ok (.aload_n 0, 1) := by decide +kernel
theorem dX6_wrote_53 : decode cX6_wrote 53 = .ok (.getfield 110, 3) := by decide +kernel
theorem dX6_wrote_56 : decode cX6_wrote 56 = .ok (.getfield 198, 3) := by decide +kernel
theorem dX6_wrote_59 : decode cX6_wrote 59 = .ok (.iload_n 1, 1) := by decide +kernel
theorem dX6_wrote_60 : decode cX6_wrote 60 = .ok (.iaload, 1) := by decide +kernel
theorem dX6_wrote_61 : decode cX6_wrote 61 = .ok (.ireturn, 1) := by decide +kernel
theorem dX6_wrote_62 : decode cX6_wrote 62 = .ok (.aload_n 0, 1) := by decide +kernel
theorem dX6_wrote_63 : decode cX6_wrote 63 = .ok (.getfield 110, 3) := by decide +kernel
theorem dX6_wrote_66 : decode cX6_wrote 66 = .ok (.getfield 201, 3) := by decide +kernel
theorem dX6_wrote_69 : decode cX6_wrote 69 = .ok (.iload_n 1, 1) := by decide +kernel
theorem dX6_wrote_70 : decode cX6_wrote 70 = .ok (.iaload, 1) := by decide +kernel
theorem dX6_wrote_71 : decode cX6_wrote 71 = .ok (.ireturn, 1) := by decide +kernel
theorem dX6_wrote_72 : decode cX6_wrote 72 = .ok (.aload_n 0, 1) := by decide +kernel
theorem dX6_wrote_73 : decode cX6_wrote 73 = .ok (.getfield 110, 3) := by decide +kernel
theorem dX6_wrote_76 : decode cX6_wrote 76 = .ok (.invokevirtual 204, 3) := by decide +kernel
theorem dX6_wrote_79 : decode cX6_wrote 79 = .ok (.iload_n 1, 1) := by decide +kernel
theorem dX6_wrote_80 : decode cX6_wrote 80 = .ok (.if_icmp .lt 7, 3) := by decide +kernel
theorem dX6_wrote_83 : decode cX6_wrote 83 = .ok (.iconst 1, 1) := by decide +kernel
theorem dX6_wrote_84 : decode cX6_wrote 84 = .ok (.goto 4, 3) := by decide +kernel
theorem dX6_wrote_87 : decode cX6_wrote 87 = .ok (.iconst 0, 1) := by decide +kernel
theorem dX6_wrote_88 : decode cX6_wrote 88 = .ok (.ireturn, 1) := by decide +kernel
theorem dX6_wrote_89 : decode cX6_wrote 89 = .ok (.aload_n 0, 1) := by decide +kernel
theorem dX6_wrote_90 : decode cX6_wrote 90 = .ok (.getfield 110, 3) := by decide +kernel
theorem dX6_wrote_93 : decode cX6_wrote 93 = .ok (.aload_n 0, 1) := by decide +kernel
theorem dX6_wrote_94 : decode cX6_wrote 94 = .ok (.getfield 110, 3) := by decide +kernel
theorem dX6_wrote_97 : decode cX6_wrote 97 = .ok (.getfield 170, 3) := by decide +kernel
theorem dX6_wrote_100 : decode cX6_wrote 100 = .ok (.iload_n 1, 1) := by decide +kernel
theorem dX6_wrote_101 : decode cX6_wrote 101 = .ok (.invokevirtual 207, 3) := by decide +kernel
theorem dX6_wrote_104 : decode cX6_wrote 104 = .ok (.ireturn, 1) := by decide +kernel
theorem dX6_wrote_105 : decode cX6_wrote 105 = .ok (.aload_n 0, 1) := by decide +kernel
theorem dX6_wrote_106 : decode cX6_wrote 106 = .ok (.getfield 110, 3) := by decide +kernel
theorem dX6_wrote_109 : decode cX6_wrote 109 = .ok (.aload_n 0, 1) := by decide +kernel
theorem dX6_wrote_110 : decode cX6_wrote 110 = .ok (.getfield 110, 3) := by decide +kernel
theorem dX6_wrote_113 : decode cX6_wrote 113 = .ok (.getfield 173, 3) := by decide +kernel
theorem dX6_wrote_116 : decode cX6_wrote 116 = .ok (.iload_n 1, 1) := by decide +kernel
theorem dX6_wrote_117 : decode cX6_wrote 117 = .ok (.invokevirtual 207, 3) := by decide +kernel
theorem dX6_wrote_120 : decode cX6_wrote 120 = .ok (.ireturn, 1) := by decide +kernel
theorem dX6_wrote_121 : decode cX6_wrote 121 = .ok (.iconst (-1), 1) := by decide +kernel
theorem dX6_wrote_122 : decode cX6_wrote 122 = .ok (.ireturn, 1) := by decide +kernel
theorem dX6_write_0 : decode cX6_write 0 = .ok (.aload_n 0, 1) := by decide +kernel
theorem dX6_write_1 : decode cX6_write 1 = .ok (.invokevirtual 211, 3) := by decide +kernel
theorem dX6_write_4 : decode cX6_write 4 = .ok (.ifCond .eq 21, 3) := by decide +kernel
theorem dX6_write_7 : decode cX6_write 7 = .ok (.aload_n 0, 1) := by decide +kernel
theorem dX6_write_8 : decode cX6_write 8 = .ok (.iload_n 1, 1) := by decide +kernel
theorem dX6_write_9 : decode cX6_write 9 = .ok (.invokevirtual 215, 3) := by decide +kernel
theorem dX6_write_12 : decode cX6_write 12 = .ok (.ifCond .eq 13, 3) := by decide +kernel
theorem dX6_write_15 : decode cX6_write 15 = .ok (.iload_n 2, 1) := by decide +kernel
theorem dX6_write_16 : decode cX6_write 16 = .ok (.ifCond .lt 9, 3) := by decide +kernel
theorem dX6_write_19 : decode cX6_write 19 = .ok (.iload_n 2, 1) := by decide +kernel
theorem dX6_write_20 : decode cX6_write 20 = .ok (.bipush 99, 2) := by decide +kernel
theorem dX6_write_22 : decode cX6_write 22 = .ok (.if_icmp .le 5, 3) := by decide +kernel
theorem dX6_write_25 : decode cX6_write 25 = .ok (.iconst (-1), 1) := by decide +kernel
theorem dX6_write_26 : decode cX6_write 26 = .ok (.ireturn, 1) := by decide +kernel
theorem dX6_write_27 : decode cX6_write 27 = .ok (.aload_n 0, 1) := by decide +kernel
theorem dX6_write_28 : decode cX6_write 28 = .ok (.invokevirtual 218, 3) := by decide +kernel
theorem dX6_write_31 : decode cX6_write 31 = .ok (.aload_n 0, 1) := by decide +kernel
theorem dX6_write_32 : decode cX6_write 32 = .ok (.getfield 37, 3) := by decide +kernel
theorem dX6_write_35 : decode cX6_write 35 = .ok (.aload_n 0, 1) := by decide +kernel
theorem dX6_write_36 : decode cX6_write 36 = .ok (.getfield 110, 3) := by decide +kernel
theorem dX6_write_39 : decode cX6_write 39 = .ok (.iload_n 1, 1) := by decide +kernel
theorem dX6_write_40 : decode cX6_write 40 = .ok (.iload_n 2, 1) := by decide +kernel
theorem dX6_write_41 : decode cX6_write 41 = .ok (.invokevirtual 221, 3) := by decide +kernel
theorem dX6_write_44 : decode cX6_write 44 = .ok (.ireturn, 1) := by decide +kernel
theorem dX6_canGive_0 : decode cX6_canGive 0 = .ok (.aload_n 0, 1) := by decide +kernel
theorem dX6_canGive_1 : decode cX6_canGive 1 = .ok (.getfield 110, 3) := by decide +kernel
theorem dX6_canGive_4 : decode cX6_canGive 4 = .ok (.getfield 157, 3) := by decide +kernel
theorem dX6_canGive_7 : decode cX6_canGive 7 = .ok (.ifCond .le 19, 3) := by decide +kernel
theorem dX6_canGive_10 : decode cX6_canGive 10 = .ok (.aload_n 0, 1) := by decide +kernel
theorem dX6_canGive_11 : decode cX6_canGive 11 = .ok (.getfield 110, 3) := by decide +kernel
theorem dX6_canGive_14 : decode cX6_canGive 14 = .ok (.invokevirtual 195, 3) := by decide +kernel
theorem dX6_canGive_17 : decode cX6_canGive 17 = .ok (.bipush 40, 2) := by decide +kernel
theorem dX6_canGive_19 : decode cX6_canGive 19 = .ok (.if_icmp .ge 7, 3) := by decide +kernel
theorem dX6_canGive_22 : decode cX6_canGive 22 = .ok (.iconst 1, 1) := by decide +kernel
theorem dX6_canGive_23 : decode cX6_canGive 23 = .ok (.goto 4, 3) := by decide +kernel
theorem dX6_canGive_26 : decode cX6_canGive 26 = .ok (.iconst 0, 1) := by decide +kernel
theorem dX6_canGive_27 : decode cX6_canGive 27 = .ok (.ireturn, 1) := by decide +kernel
theorem dX6_beginAct_0 : decode cX6_beginAct 0 = .ok (.aload_n 0, 1) := by decide +kernel
theorem dX6_beginAct_1 : decode cX6_beginAct 1 = .ok (.getfield 100, 3) := by decide +kernel
theorem dX6_beginAct_4 : decode cX6_beginAct 4 = .ok (.bipush 40, 2) := by decide +kernel
theorem dX6_beginAct_6 : decode cX6_beginAct 6 = .ok (.if_icmp .lt 7, 3) := by decide +kernel
theorem dX6_beginAct_9 : decode cX6_beginAct 9 = .ok (.aload_n 0, 1) := by decide +kernel
theorem dX6_beginAct_10 : decode cX6_beginAct 10 = .ok (.invokevirtual 225, 3) := by decide +kernel
theorem dX6_beginAct_13 : decode cX6_beginAct 13 = .ok (.aload_n 0, 1) := by decide +kernel
theorem dX6_beginAct_14 : decode cX6_beginAct 14 = .ok (.aload_n 0, 1) := by decide +kernel
theorem dX6_beginAct_15 : decode cX6_beginAct 15 = .ok (.getfield 100, 3) := by decide +kernel
theorem dX6_beginAct_18 : decode cX6_beginAct 18 = .ok (.iconst 1, 1) := by decide +kernel
theorem dX6_beginAct_19 : decode cX6_beginAct 19 = .ok (.iadd, 1) := by decide +kernel
theorem dX6_beginAct_20 : decode cX6_beginAct 20 = .ok (.invokevirtual 106, 3) := by decide +kernel
theorem dX6_beginAct_23 : decode cX6_beginAct 23 = .ok (.astore_n 1, 1) := by decide +kernel
theorem dX6_beginAct_24 : decode cX6_beginAct 24 = .ok (.aload_n 1, 1) := by decide +kernel
theorem dX6_beginAct_25 : decode cX6_beginAct 25 = .ok (.aload_n 0, 1) := by decide +kernel
theorem dX6_beginAct_26 : decode cX6_beginAct 26 = .ok (.getfield 110, 3) := by decide +kernel
theorem dX6_beginAct_29 : decode cX6_beginAct 29 = .ok (.invokevirtual 228, 3) := by decide +kernel
theorem dX6_beginAct_32 : decode cX6_beginAct 32 = .ok (.aload_n 0, 1) := by decide +kernel
theorem dX6_beginAct_33 : decode cX6_beginAct 33 = .ok (.dup, 1) := by decide +kernel
theorem dX6_beginAct_34 : decode cX6_beginAct 34 = .ok (.getfield 100, 3) := by decide +kernel
theorem dX6_beginAct_37 : decode cX6_beginAct 37 = .ok (.iconst 1, 1) := by decide +kernel
theorem dX6_beginAct_38 : decode cX6_beginAct 38 = .ok (.iadd, 1) := by decide +kernel
theorem dX6_beginAct_39 : decode cX6_beginAct 39 = .ok (.putfield 100, 3) := by decide +kernel
theorem dX6_beginAct_42 : decode cX6_beginAct 42 = .ok (.aload_n 0, 1) := by decide +kernel
theorem dX6_beginAct_43 : decode cX6_beginAct 43 = .ok (.aload_n 0, 1) := by decide +kernel
theorem dX6_beginAct_44 : decode cX6_beginAct 44 = .ok (.getfield 100, 3) := by decide +kernel
theorem dX6_beginAct_47 : decode cX6_beginAct 47 = .ok (.putfield 103, 3) := by decide +kernel
theorem dX6_beginAct_50 : decode cX6_beginAct 50 = .ok (.aload_n 0, 1) := by decide +kernel
theorem dX6_beginAct_51 : decode cX6_beginAct 51 = .ok (.aload_n 1, 1) := by decide +kernel
theorem dX6_beginAct_52 : decode cX6_beginAct 52 = .ok (.putfield 110, 3) := by decide +kernel
theorem dX6_beginAct_55 : decode cX6_beginAct 55 = .ok (.return_, 1) := by decide +kernel
theorem dX6_forgetOldest_0 : decode cX6_forgetOldest 0 = .ok (.aload_n 0, 1) := by decide +kernel
theorem dX6_forgetOldest_1 : decode cX6_forgetOldest 1 = .ok (.getfield 43, 3) := by decide +kernel
theorem dX6_forgetOldest_4 : decode cX6_forgetOldest 4 = .ok (.iconst 0, 1) := by decide +kernel
theorem dX6_forgetOldest_5 : decode cX6_forgetOldest 5 = .ok (.aaload, 1) := by decide +kernel
theorem dX6_forgetOldest_6 : decode cX6_forgetOldest 6 = .ok (.astore_n 1, 1) := by decide +kernel
theorem dX6_forgetOldest_7 : decode cX6_forgetOldest 7 = .ok (.iconst 0, 1) := by decide +kernel
theorem dX6_forgetOldest_8 : decode cX6_forgetOldest 8 = .ok (.istore_n 2, 1) := by decide +kernel
theorem dX6_forgetOldest_9 : decode cX6_forgetOldest 9 = .ok (.iload_n 2, 1) := by decide +kernel
theorem dX6_forgetOldest_10 : decode cX6_forgetOldest 10 = .ok (.bipush 40, 2) := by decide +kernel
theorem dX6_forgetOldest_12 : decode cX6_forgetOldest 12 = .ok (.if_icmp .ge 23, 3) := by decide +kernel
theorem dX6_forgetOldest_15 : decode cX6_forgetOldest 15 = .ok (.aload_n 0, 1) := by decide +kernel
theorem dX6_forgetOldest_16 : decode cX6_forgetOldest 16 = .ok (.getfield 43, 3) := by decide +kernel
theorem dX6_forgetOldest_19 : decode cX6_forgetOldest 19 = .ok (.iload_n 2, 1) := by decide +kernel
theorem dX6_forgetOldest_20 : decode cX6_forgetOldest 20 = .ok (.aload_n 0, 1) := by decide +kernel
theorem dX6_forgetOldest_21 : decode cX6_forgetOldest 21 = .ok (.getfield 43, 3) := by decide +kernel
theorem dX6_forgetOldest_24 : decode cX6_forgetOldest 24 = .ok (.iload_n 2, 1) := by decide +kernel
theorem dX6_forgetOldest_25 : decode cX6_forgetOldest 25 = .ok (.iconst 1, 1) := by decide +kernel
theorem dX6_forgetOldest_26 : decode cX6_forgetOldest 26 = .ok (.iadd, 1) := by decide +kernel
theorem dX6_forgetOldest_27 : decode cX6_forgetOldest 27 = .ok (.aaload, 1) := by decide +kernel
theorem dX6_forgetOldest_28 : decode cX6_forgetOldest 28 = .ok (.aastore, 1) := by decide +kernel
theorem dX6_forgetOldest_29 : decode cX6_forgetOldest 29 = .ok (.iinc 2 1, 3) := by decide +kernel
theorem dX6_forgetOldest_32 : decode cX6_forgetOldest 32 = .ok (.goto (-23), 3) := by decide +kernel
theorem dX6_forgetOldest_35 : decode cX6_forgetOldest 35 = .ok (.aload_n 0, 1) := by decide +kernel
theorem dX6_forgetOldest_36 : decode cX6_forgetOldest 36 = .ok (.getfield 43, 3) := by decide +kernel
theorem dX6_forgetOldest_39 : decode cX6_forgetOldest 39 = .ok (.bipush 40, 2) := by decide +kernel
theorem dX6_forgetOldest_41 : decode cX6_forgetOldest 41 = .ok (.aload_n 1, 1) := by decide +kernel
theorem dX6_forgetOldest_42 : decode cX6_forgetOldest 42 = .ok (.aastore, 1) := by decide +kernel
theorem dX6_forgetOldest_43 : decode cX6_forgetOldest 43 = .ok (.aload_n 0, 1) := by decide +kernel
theorem dX6_forgetOldest_44 : decode cX6_forgetOldest 44 = .ok (.bipush 39, 2) := by decide +kernel
theorem dX6_forgetOldest_46 : decode cX6_forgetOldest 46 = .ok (.putfield 100, 3) := by decide +kernel
theorem dX6_forgetOldest_49 : decode cX6_forgetOldest 49 = .ok (.return_, 1) := by decide +kernel
theorem dX6_tick_0 : decode cX6_tick 0 = .ok (.aload_n 0, 1) := by decide +kernel
theorem dX6_tick_1 : decode cX6_tick 1 = .ok (.getfield 110, 3) := by decide +kernel
theorem dX6_tick_4 : decode cX6_tick 4 = .ok (.getfield 157, 3) := by decide +kernel
theorem dX6_tick_7 : decode cX6_tick 7 = .ok (.ifCond .eq 16, 3) := by decide +kernel
theorem dX6_tick_10 : decode cX6_tick 10 = .ok (.aload_n 0, 1) := by decide +kernel
theorem dX6_tick_11 : decode cX6_tick 11 = .ok (.getfield 110, 3) := by decide +kernel
theorem dX6_tick_14 : decode cX6_tick 14 = .ok (.getfield 142, 3) := by decide +kernel
theorem dX6_tick_17 : decode cX6_tick 17 = .ok (.sipush 999, 3) := by decide +kernel
theorem dX6_tick_20 : decode cX6_tick 20 = .ok (.if_icmp .lt 5, 3) := by decide +kernel
theorem dX6_tick_23 : decode cX6_tick 23 = .ok (.iconst (-1), 1) := by decide +kernel
theorem dX6_tick_24 : decode cX6_tick 24 = .ok (.ireturn, 1) := by decide +kernel
theorem dX6_tick_25 : decode cX6_tick 25 = .ok (.aload_n 0, 1) := by decide +kernel
theorem dX6_tick_26 : decode cX6_tick 26 = .ok (.invokevirtual 218, 3) := by decide +kernel
theorem dX6_tick_29 : decode cX6_tick 29 = .ok (.aload_n 0, 1) := by decide +kernel
theorem dX6_tick_30 : decode cX6_tick 30 = .ok (.getfield 37, 3) := by decide +kernel
theorem dX6_tick_33 : decode cX6_tick 33 = .ok (.aload_n 0, 1) := by decide +kernel
theorem dX6_tick_34 : decode cX6_tick 34 = .ok (.getfield 110, 3) := by decide +kernel
theorem dX6_tick_37 : decode cX6_tick 37 = .ok (.invokevirtual 232, 3) := by decide +kernel
theorem dX6_tick_40 : decode cX6_tick 40 = .ok (.istore_n 1, 1) := by decide +kernel
theorem dX6_tick_41 : decode cX6_tick 41 = .ok (.aload_n 0, 1) := by decide +kernel
theorem dX6_tick_42 : decode cX6_tick 42 = .ok (.getfield 37, 3) := by decide +kernel
theorem dX6_tick_45 : decode cX6_tick 45 = .ok (.aload_n 0, 1) := by decide +kernel
theorem dX6_tick_46 : decode cX6_tick 46 = .ok (.getfield 110, 3) := by decide +kernel
theorem dX6_tick_49 : decode cX6_tick 49 = .ok (.invokevirtual 236, 3) := by decide +kernel
theorem dX6_tick_52 : decode cX6_tick 52 = .ok (.iload_n 1, 1) := by decide +kernel
theorem dX6_tick_53 : decode cX6_tick 53 = .ok (.ireturn, 1) := by decide +kernel
theorem dX6_lose_0 : decode cX6_lose 0 = .ok (.aload_n 0, 1) := by decide +kernel
theorem dX6_lose_1 : decode cX6_lose 1 = .ok (.iload_n 1, 1) := by decide +kernel
theorem dX6_lose_2 : decode cX6_lose 2 = .ok (.invokevirtual 239, 3) := by decide +kernel
theorem dX6_lose_5 : decode cX6_lose 5 = .ok (.ifCond .eq 14, 3) := by decide +kernel
theorem dX6_lose_8 : decode cX6_lose 8 = .ok (.aload_n 0, 1) := by decide +kernel
theorem dX6_lose_9 : decode cX6_lose 9 = .ok (.getfield 110, 3) := by decide +kernel
theorem dX6_lose_12 : decode cX6_lose 12 = .ok (.getfield 157, 3) := by decide +kernel
theorem dX6_lose_15 : decode cX6_lose 15 = .ok (.iconst 2, 1) := by decide +kernel
theorem dX6_lose_16 : decode cX6_lose 16 = .ok (.if_icmp .ge 5, 3) := by decide +kernel
theorem dX6_lose_19 : decode cX6_lose 19 = .ok (.iconst (-1), 1) := by decide +kernel
theorem dX6_lose_20 : decode cX6_lose 20 = .ok (.ireturn, 1) := by decide +kernel
theorem dX6_lose_21 : decode cX6_lose 21 = .ok (.aload_n 0, 1) := by decide +kernel
theorem dX6_lose_22 : decode cX6_lose 22 = .ok (.invokevirtual 218, 3) := by decide +kernel
theorem dX6_lose_25 : decode cX6_lose 25 = .ok (.aload_n 0, 1) := by decide +kernel
theorem dX6_lose_26 : decode cX6_lose 26 = .ok (.getfield 37, 3) := by decide +kernel
theorem dX6_lose_29 : decode cX6_lose 29 = .ok (.aload_n 0, 1) := by decide +kernel
theorem dX6_lose_30 : decode cX6_lose 30 = .ok (.getfield 110, 3) := by decide +kernel
theorem dX6_lose_33 : decode cX6_lose 33 = .ok (.iload_n 1, 1) := by decide +kernel
theorem dX6_lose_34 : decode cX6_lose 34 = .ok (.invokevirtual 242, 3) := by decide +kernel
theorem dX6_lose_37 : decode cX6_lose 37 = .ok (.ireturn, 1) := by decide +kernel
theorem dX6_join_0 : decode cX6_join 0 = .ok (.aload_n 0, 1) := by decide +kernel
theorem dX6_join_1 : decode cX6_join 1 = .ok (.iload_n 1, 1) := by decide +kernel
theorem dX6_join_2 : decode cX6_join 2 = .ok (.invokevirtual 163, 3) := by decide +kernel
theorem dX6_join_5 : decode cX6_join 5 = .ok (.ifCond .eq 22, 3) := by decide +kernel
theorem dX6_join_8 : decode cX6_join 8 = .ok (.aload_n 0, 1) := by decide +kernel
theorem dX6_join_9 : decode cX6_join 9 = .ok (.iload_n 1, 1) := by decide +kernel
theorem dX6_join_10 : decode cX6_join 10 = .ok (.invokevirtual 239, 3) := by decide +kernel
theorem dX6_join_13 : decode cX6_join 13 = .ok (.ifCond .ne 14, 3) := by decide +kernel
theorem dX6_join_16 : decode cX6_join 16 = .ok (.aload_n 0, 1) := by decide +kernel
theorem dX6_join_17 : decode cX6_join 17 = .ok (.getfield 110, 3) := by decide +kernel
theorem dX6_join_20 : decode cX6_join 20 = .ok (.getfield 176, 3) := by decide +kernel
theorem dX6_join_23 : decode cX6_join 23 = .ok (.iconst (-1), 1) := by decide +kernel
theorem dX6_join_24 : decode cX6_join 24 = .ok (.if_icmp .eq 5, 3) := by decide +kernel
theorem dX6_join_27 : decode cX6_join 27 = .ok (.iconst (-1), 1) := by decide +kernel
theorem dX6_join_28 : decode cX6_join 28 = .ok (.ireturn, 1) := by decide +kernel
theorem dX6_join_29 : decode cX6_join 29 = .ok (.aload_n 0, 1) := by decide +kernel
theorem dX6_join_30 : decode cX6_join 30 = .ok (.getfield 110, 3) := by decide +kernel
theorem dX6_join_33 : decode cX6_join 33 = .ok (.getfield 157, 3) := by decide +kernel
theorem dX6_join_36 : decode cX6_join 36 = .ok (.ifCond .eq 15, 3) := by decide +kernel
theorem dX6_join_39 : decode cX6_join 39 = .ok (.aload_n 0, 1) := by decide +kernel
theorem dX6_join_40 : decode cX6_join 40 = .ok (.getfield 110, 3) := by decide +kernel
theorem dX6_join_43 : decode cX6_join 43 = .ok (.getfield 157, 3) := by decide +kernel
theorem dX6_join_46 : decode cX6_join 46 = .ok (.bipush 6, 2) := by decide +kernel
theorem dX6_join_48 : decode cX6_join 48 = .ok (.if_icmp .lt 5, 3) := by decide +kernel
theorem dX6_join_51 : decode cX6_join 51 = .ok (.iconst (-1), 1) := by decide +kernel
theorem dX6_join_52 : decode cX6_join 52 = .ok (.ireturn, 1) := by decide +kernel
theorem dX6_join_53 : decode cX6_join 53 = .ok (.aload_n 0, 1) := by decide +kernel
theorem dX6_join_54 : decode cX6_join 54 = .ok (.invokevirtual 218, 3) := by decide +kernel
theorem dX6_join_57 : decode cX6_join 57 = .ok (.aload_n 0, 1) := by decide +kernel
theorem dX6_join_58 : decode cX6_join 58 = .ok (.getfield 110, 3) := by decide +kernel
theorem dX6_join_61 : decode cX6_join 61 = .ok (.iload_n 1, 1) := by decide +kernel
theorem dX6_join_62 : decode cX6_join 62 = .ok (.putfield 176, 3) := by decide +kernel
theorem dX6_join_65 : decode cX6_join 65 = .ok (.aload_n 0, 1) := by decide +kernel
theorem dX6_join_66 : decode cX6_join 66 = .ok (.getfield 110, 3) := by decide +kernel
theorem dX6_join_69 : decode cX6_join 69 = .ok (.aload_n 0, 1) := by decide +kernel
theorem dX6_join_70 : decode cX6_join 70 = .ok (.getfield 16, 3) := by decide +kernel
theorem dX6_join_73 : decode cX6_join 73 = .ok (.getfield 246, 3) := by decide +kernel
theorem dX6_join_76 : decode cX6_join 76 = .ok (.putfield 249, 3) := by decide +kernel
theorem dX6_join_79 : decode cX6_join 79 = .ok (.aload_n 0, 1) := by decide +kernel
theorem dX6_join_80 : decode cX6_join 80 = .ok (.getfield 110, 3) := by decide +kernel
theorem dX6_join_83 : decode cX6_join 83 = .ok (.getfield 249, 3) := by decide +kernel
theorem dX6_join_86 : decode cX6_join 86 = .ok (.ireturn, 1) := by decide +kernel
theorem dX6_undo_0 : decode cX6_undo 0 = .ok (.aload_n 0, 1) := by decide +kernel
theorem dX6_undo_1 : decode cX6_undo 1 = .ok (.getfield 100, 3) := by decide +kernel
theorem dX6_undo_4 : decode cX6_undo 4 = .ok (.ifCond .ne 5, 3) := by decide +kernel
theorem dX6_undo_7 : decode cX6_undo 7 = .ok (.iconst 0, 1) := by decide +kernel
theorem dX6_undo_8 : decode cX6_undo 8 = .ok (.ireturn, 1) := by decide +kernel
theorem dX6_undo_9 : decode cX6_undo 9 = .ok (.aload_n 0, 1) := by decide +kernel
theorem dX6_undo_10 : decode cX6_undo 10 = .ok (.dup, 1) := by decide +kernel
theorem dX6_undo_11 : decode cX6_undo 11 = .ok (.getfield 100, 3) := by decide +kernel
theorem dX6_undo_14 : decode cX6_undo 14 = .ok (.iconst 1, 1) := by decide +kernel
theorem dX6_undo_15 : decode cX6_undo 15 = .ok (.isub, 1) := by decide +kernel
theorem dX6_undo_16 : decode cX6_undo 16 = .ok (.putfield 100, 3) := by decide +kernel
theorem dX6_undo_19 : decode cX6_undo 19 = .ok (.aload_n 0, 1) := by decide +kernel
theorem dX6_undo_20 : decode cX6_undo 20 = .ok (.aload_n 0, 1) := by decide +kernel
theorem dX6_undo_21 : decode cX6_undo 21 = .ok (.aload_n 0, 1) := by decide +kernel
theorem dX6_undo_22 : decode cX6_undo 22 = .ok (.getfield 100, 3) := by decide +kernel
theorem dX6_undo_25 : decode cX6_undo 25 = .ok (.invokevirtual 106, 3) := by decide +kernel
theorem dX6_undo_28 : decode cX6_undo 28 = .ok (.putfield 110, 3) := by decide +kernel
theorem dX6_undo_31 : decode cX6_undo 31 = .ok (.iconst 1, 1) := by decide +kernel
theorem dX6_undo_32 : decode cX6_undo 32 = .ok (.ireturn, 1) := by decide +kernel
theorem dX6_redo_0 : decode cX6_redo 0 = .ok (.aload_n 0, 1) := by decide +kernel
theorem dX6_redo_1 : decode cX6_redo 1 = .ok (.getfield 100, 3) := by decide +kernel
theorem dX6_redo_4 : decode cX6_redo 4 = .ok (.aload_n 0, 1) := by decide +kernel
theorem dX6_redo_5 : decode cX6_redo 5 = .ok (.getfield 103, 3) := by decide +kernel
theorem dX6_redo_8 : decode cX6_redo 8 = .ok (.if_icmp .lt 5, 3) := by decide +kernel
theorem dX6_redo_11 : decode cX6_redo 11 = .ok (.iconst 0, 1) := by decide +kernel
theorem dX6_redo_12 : decode cX6_redo 12 = .ok (.ireturn, 1) := by decide +kernel
theorem dX6_redo_13 : decode cX6_redo 13 = .ok (.aload_n 0, 1) := by decide +kernel
theorem dX6_redo_14 : decode cX6_redo 14 = .ok (.dup, 1) := by decide +kernel
theorem dX6_redo_15 : decode cX6_redo 15 = .ok (.getfield 100, 3) := by decide +kernel
theorem dX6_redo_18 : decode cX6_redo 18 = .ok (.iconst 1, 1) := by decide +kernel
theorem dX6_redo_19 : decode cX6_redo 19 = .ok (.iadd, 1) := by decide +kernel
theorem dX6_redo_20 : decode cX6_redo 20 = .ok (.putfield 100, 3) := by decide +kernel
theorem dX6_redo_23 : decode cX6_redo 23 = .ok (.aload_n 0, 1) := by decide +kernel
theorem dX6_redo_24 : decode cX6_redo 24 = .ok (.aload_n 0, 1) := by decide +kernel
theorem dX6_redo_25 : decode cX6_redo 25 = .ok (.aload_n 0, 1) := by decide +kernel
theorem dX6_redo_26 : decode cX6_redo 26 = .ok (.getfield 100, 3) := by decide +kernel
theorem dX6_redo_29 : decode cX6_redo 29 = .ok (.invokevirtual 106, 3) := by decide +kernel
theorem dX6_redo_32 : decode cX6_redo 32 = .ok (.putfield 110, 3) := by decide +kernel
theorem dX6_redo_35 : decode cX6_redo 35 = .ok (.iconst 1, 1) := by decide +kernel
theorem dX6_redo_36 : decode cX6_redo 36 = .ok (.ireturn, 1) := by decide +kernel
theorem dX6_read_0 : decode cX6_read 0 = .ok (.aload_n 0, 1) := by decide +kernel
theorem dX6_read_1 : decode cX6_read 1 = .ok (.iload_n 1, 1) := by decide +kernel
theorem dX6_read_2 : decode cX6_read 2 = .ok (.invokevirtual 239, 3) := by decide +kernel
theorem dX6_read_5 : decode cX6_read 5 = .ok (.ifCond .eq 11, 3) := by decide +kernel
theorem dX6_read_8 : decode cX6_read 8 = .ok (.aload_n 0, 1) := by decide +kernel
theorem dX6_read_9 : decode cX6_read 9 = .ok (.iload_n 2, 1) := by decide +kernel
theorem dX6_read_10 : decode cX6_read 10 = .ok (.invokevirtual 215, 3) := by decide +kernel
theorem dX6_read_13 : decode cX6_read 13 = .ok (.ifCond .ne 6, 3) := by decide +kernel
theorem dX6_read_16 : decode cX6_read 16 = .ok (.bipush (-2), 2) := by decide +kernel
theorem dX6_read_18 : decode cX6_read 18 = .ok (.ireturn, 1) := by decide +kernel
theorem dX6_read_19 : decode cX6_read 19 = .ok (.aload_n 0, 1) := by decide +kernel
theorem dX6_read_20 : decode cX6_read 20 = .ok (.getfield 110, 3) := by decide +kernel
theorem dX6_read_23 : decode cX6_read 23 = .ok (.iload_n 1, 1) := by decide +kernel
theorem dX6_read_24 : decode cX6_read 24 = .ok (.iload_n 2, 1) := by decide +kernel
theorem dX6_read_25 : decode cX6_read 25 = .ok (.invokevirtual 252, 3) := by decide +kernel
theorem dX6_read_28 : decode cX6_read 28 = .ok (.ifCond .le 23, 3) := by decide +kernel
theorem dX6_read_31 : decode cX6_read 31 = .ok (.aload_n 0, 1) := by decide +kernel
theorem dX6_read_32 : decode cX6_read 32 = .ok (.getfield 110, 3) := by decide +kernel
theorem dX6_read_35 : decode cX6_read 35 = .ok (.getfield 160, 3) := by decide +kernel
theorem dX6_read_38 : decode cX6_read 38 = .ok (.aload_n 0, 1) := by decide +kernel
theorem dX6_read_39 : decode cX6_read 39 = .ok (.getfield 110, 3) := by decide +kernel
theorem dX6_read_42 : decode cX6_read 42 = .ok (.getfield 157, 3) := by decide +kernel
theorem dX6_read_45 : decode cX6_read 45 = .ok (.iconst 1, 1) := by decide +kernel
theorem dX6_read_46 : decode cX6_read 46 = .ok (.isub, 1) := by decide +kernel
theorem dX6_read_47 : decode cX6_read 47 = .ok (.iaload, 1) := by decide +kernel
theorem dX6_read_48 : decode cX6_read 48 = .ok (.goto 4, 3) := by decide +kernel
theorem dX6_read_51 : decode cX6_read 51 = .ok (.iload_n 1, 1) := by decide +kernel
theorem dX6_read_52 : decode cX6_read 52 = .ok (.istore_n 3, 1) := by decide +kernel
theorem dX6_read_53 : decode cX6_read 53 = .ok (.aload_n 0, 1) := by decide +kernel
theorem dX6_read_54 : decode cX6_read 54 = .ok (.getfield 110, 3) := by decide +kernel
theorem dX6_read_57 : decode cX6_read 57 = .ok (.iload_n 2, 1) := by decide +kernel
theorem dX6_read_58 : decode cX6_read 58 = .ok (.aload_n 0, 1) := by decide +kernel
theorem dX6_read_59 : decode cX6_read 59 = .ok (.getfield 110, 3) := by decide +kernel
theorem dX6_read_62 : decode cX6_read 62 = .ok (.getfield 173, 3) := by decide +kernel
theorem dX6_read_65 : decode cX6_read 65 = .ok (.iload_n 3, 1) := by decide +kernel
theorem dX6_read_66 : decode cX6_read 66 = .ok (.iaload, 1) := by decide +kernel
theorem dX6_read_67 : decode cX6_read 67 = .ok (.invokevirtual 255, 3) := by decide +kernel
theorem dX6_read_70 : decode cX6_read 70 = .ok (.ireturn, 1) := by decide +kernel
theorem dX6_lazy_0 : decode cX6_lazy 0 = .ok (.aload_n 0, 1) := by decide +kernel
theorem dX6_lazy_1 : decode cX6_lazy 1 = .ok (.iload_n 1, 1) := by decide +kernel
theorem dX6_lazy_2 : decode cX6_lazy 2 = .ok (.invokevirtual 239, 3) := by decide +kernel
theorem dX6_lazy_5 : decode cX6_lazy 5 = .ok (.ifCond .eq 11, 3) := by decide +kernel
theorem dX6_lazy_8 : decode cX6_lazy 8 = .ok (.aload_n 0, 1) := by decide +kernel
theorem dX6_lazy_9 : decode cX6_lazy 9 = .ok (.iload_n 2, 1) := by decide +kernel
theorem dX6_lazy_10 : decode cX6_lazy 10 = .ok (.invokevirtual 215, 3) := by decide +kernel
theorem dX6_lazy_13 : decode cX6_lazy 13 = .ok (.ifCond .ne 6, 3) := by decide +kernel
theorem dX6_lazy_16 : decode cX6_lazy 16 = .ok (.bipush (-2), 2) := by decide +kernel
theorem dX6_lazy_18 : decode cX6_lazy 18 = .ok (.ireturn, 1) := by decide +kernel
theorem dX6_lazy_19 : decode cX6_lazy 19 = .ok (.aload_n 0, 1) := by decide +kernel
theorem dX6_lazy_20 : decode cX6_lazy 20 = .ok (.getfield 110, 3) := by decide +kernel
theorem dX6_lazy_23 : decode cX6_lazy 23 = .ok (.iload_n 2, 1) := by decide +kernel
theorem dX6_lazy_24 : decode cX6_lazy 24 = .ok (.aload_n 0, 1) := by decide +kernel
theorem dX6_lazy_25 : decode cX6_lazy 25 = .ok (.getfield 110, 3) := by decide +kernel
theorem dX6_lazy_28 : decode cX6_lazy 28 = .ok (.getfield 173, 3) := by decide +kernel
theorem dX6_lazy_31 : decode cX6_lazy 31 = .ok (.iload_n 1, 1) := by decide +kernel
theorem dX6_lazy_32 : decode cX6_lazy 32 = .ok (.iaload, 1) := by decide +kernel
theorem dX6_lazy_33 : decode cX6_lazy 33 = .ok (.invokevirtual 255, 3) := by decide +kernel
theorem dX6_lazy_36 : decode cX6_lazy 36 = .ok (.ireturn, 1) := by decide +kernel
theorem dX6_askers_0 : decode cX6_askers 0 = .ok (.aload_n 0, 1) := by decide +kernel
theorem dX6_askers_1 : decode cX6_askers 1 = .ok (.iload_n 1, 1) := by decide +kernel
theorem dX6_askers_2 : decode cX6_askers 2 = .ok (.invokevirtual 215, 3) := by decide +kernel
theorem dX6_askers_5 : decode cX6_askers 5 = .ok (.ifCond .ne 5, 3) := by decide +kernel
theorem dX6_askers_8 : decode cX6_askers 8 = .ok (.iconst (-1), 1) := by decide +kernel
theorem dX6_askers_9 : decode cX6_askers 9 = .ok (.ireturn, 1) := by decide +kernel
theorem dX6_askers_10 : decode cX6_askers 10 = .ok (.iconst 0, 1) := by decide +kernel
theorem dX6_askers_11 : decode cX6_askers 11 = .ok (.istore_n 2, 1) := by decide +kernel
theorem dX6_askers_12 : decode cX6_askers 12 = .ok (.iconst 0, 1) := by decide +kernel
theorem dX6_askers_13 : decode cX6_askers 13 = .ok (.istore_n 3, 1) := by decide +kernel
theorem dX6_askers_14 : decode cX6_askers 14 = .ok (.iload_n 3, 1) := by decide +kernel
theorem dX6_askers_15 : decode cX6_askers 15 = .ok (.aload_n 0, 1) := by decide +kernel
theorem dX6_askers_16 : decode cX6_askers 16 = .ok (.getfield 110, 3) := by decide +kernel
theorem dX6_askers_19 : decode cX6_askers 19 = .ok (.getfield 157, 3) := by decide +kernel
theorem dX6_askers_22 : decode cX6_askers 22 = .ok (.if_icmp .ge 40, 3) := by decide +kernel
theorem dX6_askers_25 : decode cX6_askers 25 = .ok (.aload_n 0, 1) := by decide +kernel
theorem dX6_askers_26 : decode cX6_askers 26 = .ok (.getfield 110, 3) := by decide +kernel
theorem dX6_askers_29 : decode cX6_askers 29 = .ok (.getfield 160, 3) := by decide +kernel
theorem dX6_askers_32 : decode cX6_askers 32 = .ok (.iload_n 3, 1) := by decide +kernel
theorem dX6_askers_33 : decode cX6_askers 33 = .ok (.iaload, 1) := by decide +kernel
theorem dX6_askers_34 : decode cX6_askers 34 = .ok (.istore 4, 2) := by decide +kernel
theorem dX6_askers_36 : decode cX6_askers 36 = .ok (.aload_n 0, 1) := by decide +kernel
theorem dX6_askers_37 : decode cX6_askers 37 = .ok (.getfield 110, 3) := by decide +kernel
theorem dX6_askers_40 : decode cX6_askers 40 = .ok (.iload 4, 2) := by decide +kernel
theorem dX6_askers_42 : decode cX6_askers 42 = .ok (.iload_n 1, 1) := by decide +kernel
theorem dX6_askers_43 : decode cX6_askers 43 = .ok (.invokevirtual 252, 3) := by decide +kernel
theorem dX6_askers_46 : decode cX6_askers 46 = .ok (.ifCond .le 10, 3) := by decide +kernel
theorem dX6_askers_49 : decode cX6_askers 49 = .ok (.iload_n 2, 1) := by decide +kernel
theorem dX6_askers_50 : decode cX6_askers 50 = .ok (.iconst 1, 1) := by decide +kernel
theorem dX6_askers_51 : decode cX6_askers 51 = .ok (.iload 4, 2) := by decide +kernel
theorem dX6_askers_53 : decode cX6_askers 53 = .ok (.ishl, 1) := by decide +kernel
theorem dX6_askers_54 : decode cX6_askers 54 = .ok (.ior, 1) := by decide +kernel
theorem dX6_askers_55 : decode cX6_askers 55 = .ok (.istore_n 2, 1) := by decide +kernel
theorem dX6_askers_56 : decode cX6_askers 56 = .ok (.iinc 3 1, 3) := by decide +kernel
theorem dX6_askers_59 : decode cX6_askers 59 = .ok (.goto (-45), 3) := by decide +kernel
theorem dX6_askers_62 : decode cX6_askers 62 = .ok (.iload_n 2, 1) := by decide +kernel
theorem dX6_askers_63 : decode cX6_askers 63 = .ok (.ireturn, 1) := by decide +kernel
theorem dX6_stale_0 : decode cX6_stale 0 = .ok (.aload_n 0, 1) := by decide +kernel
theorem dX6_stale_1 : decode cX6_stale 1 = .ok (.iload_n 1, 1) := by decide +kernel
theorem dX6_stale_2 : decode cX6_stale 2 = .ok (.invokevirtual 215, 3) := by decide +kernel
theorem dX6_stale_5 : decode cX6_stale 5 = .ok (.ifCond .ne 5, 3) := by decide +kernel
theorem dX6_stale_8 : decode cX6_stale 8 = .ok (.iconst (-1), 1) := by decide +kernel
theorem dX6_stale_9 : decode cX6_stale 9 = .ok (.ireturn, 1) := by decide +kernel
theorem dX6_stale_10 : decode cX6_stale 10 = .ok (.iconst 0, 1) := by decide +kernel
theorem dX6_stale_11 : decode cX6_stale 11 = .ok (.istore_n 2, 1) := by decide +kernel
theorem dX6_stale_12 : decode cX6_stale 12 = .ok (.iconst 0, 1) := by decide +kernel
theorem dX6_stale_13 : decode cX6_stale 13 = .ok (.istore_n 3, 1) := by decide +kernel
theorem dX6_stale_14 : decode cX6_stale 14 = .ok (.iload_n 3, 1) := by decide +kernel
theorem dX6_stale_15 : decode cX6_stale 15 = .ok (.aload_n 0, 1) := by decide +kernel
theorem dX6_stale_16 : decode cX6_stale 16 = .ok (.getfield 110, 3) := by decide +kernel
theorem dX6_stale_19 : decode cX6_stale 19 = .ok (.getfield 157, 3) := by decide +kernel
theorem dX6_stale_22 : decode cX6_stale 22 = .ok (.if_icmp .ge 85, 3) := by decide +kernel
theorem dX6_stale_25 : decode cX6_stale 25 = .ok (.aload_n 0, 1) := by decide +kernel
theorem dX6_stale_26 : decode cX6_stale 26 = .ok (.getfield 110, 3) := by decide +kernel
theorem dX6_stale_29 : decode cX6_stale 29 = .ok (.getfield 160, 3) := by decide +kernel
theorem dX6_stale_32 : decode cX6_stale 32 = .ok (.iload_n 3, 1) := by decide +kernel
theorem dX6_stale_33 : decode cX6_stale 33 = .ok (.iaload, 1) := by decide +kernel
theorem dX6_stale_34 : decode cX6_stale 34 = .ok (.istore 4, 2) := by decide +kernel
theorem dX6_stale_36 : decode cX6_stale 36 = .ok (.aload_n 0, 1) := by decide +kernel
theorem dX6_stale_37 : decode cX6_stale 37 = .ok (.getfield 110, 3) := by decide +kernel
theorem dX6_stale_40 : decode cX6_stale 40 = .ok (.getfield 160, 3) := by decide +kernel
theorem dX6_stale_43 : decode cX6_stale 43 = .ok (.aload_n 0, 1) := by decide +kernel
theorem dX6_stale_44 : decode cX6_stale 44 = .ok (.getfield 110, 3) := by decide +kernel
theorem dX6_stale_47 : decode cX6_stale 47 = .ok (.getfield 157, 3) := by decide +kernel
theorem dX6_stale_50 : decode cX6_stale 50 = .ok (.iconst 1, 1) := by decide +kernel
theorem dX6_stale_51 : decode cX6_stale 51 = .ok (.isub, 1) := by decide +kernel
theorem dX6_stale_52 : decode cX6_stale 52 = .ok (.iaload, 1) := by decide +kernel
theorem dX6_stale_53 : decode cX6_stale 53 = .ok (.istore 5, 2) := by decide +kernel
theorem dX6_stale_55 : decode cX6_stale 55 = .ok (.aload_n 0, 1) := by decide +kernel
theorem dX6_stale_56 : decode cX6_stale 56 = .ok (.getfield 110, 3) := by decide +kernel
theorem dX6_stale_59 : decode cX6_stale 59 = .ok (.iload_n 1, 1) := by decide +kernel
theorem dX6_stale_60 : decode cX6_stale 60 = .ok (.aload_n 0, 1) := by decide +kernel
theorem dX6_stale_61 : decode cX6_stale 61 = .ok (.getfield 110, 3) := by decide +kernel
theorem dX6_stale_64 : decode cX6_stale 64 = .ok (.getfield 173, 3) := by decide +kernel
theorem dX6_stale_67 : decode cX6_stale 67 = .ok (.iload 4, 2) := by decide +kernel
theorem dX6_stale_69 : decode cX6_stale 69 = .ok (.iaload, 1) := by decide +kernel
theorem dX6_stale_70 : decode cX6_stale 70 = .ok (.invokevirtual 255, 3) := by decide +kernel
theorem dX6_stale_73 : decode cX6_stale 73 = .ok (.aload_n 0, 1) := by decide +kernel
theorem dX6_stale_74 : decode cX6_stale 74 = .ok (.getfield 110, 3) := by decide +kernel
theorem dX6_stale_77 : decode cX6_stale 77 = .ok (.iload_n 1, 1) := by decide +kernel
theorem dX6_stale_78 : decode cX6_stale 78 = .ok (.aload_n 0, 1) := by decide +kernel
theorem dX6_stale_79 : decode cX6_stale 79 = .ok (.getfield 110, 3) := by decide +kernel
theorem dX6_stale_82 : decode cX6_stale 82 = .ok (.getfield 173, 3) := by decide +kernel
theorem dX6_stale_85 : decode cX6_stale 85 = .ok (.iload 5, 2) := by decide +kernel
theorem dX6_stale_87 : decode cX6_stale 87 = .ok (.iaload, 1) := by decide +kernel
theorem dX6_stale_88 : decode cX6_stale 88 = .ok (.invokevirtual 255, 3) := by decide +kernel
theorem dX6_stale_91 : decode cX6_stale 91 = .ok (.if_icmp .eq 10, 3) := by decide +kernel
theorem dX6_stale_94 : decode cX6_stale 94 = .ok (.iload_n 2, 1) := by decide +kernel
theorem dX6_stale_95 : decode cX6_stale 95 = .ok (.iconst 1, 1) := by decide +kernel
theorem dX6_stale_96 : decode cX6_stale 96 = .ok (.iload 4, 2) := by decide +kernel
theorem dX6_stale_98 : decode cX6_stale 98 = .ok (.ishl, 1) := by decide +kernel
theorem dX6_stale_99 : decode cX6_stale 99 = .ok (.ior, 1) := by decide +kernel
theorem dX6_stale_100 : decode cX6_stale 100 = .ok (.istore_n 2, 1) := by decide +kernel
theorem dX6_stale_101 : decode cX6_stale 101 = .ok (.iinc 3 1, 3) := by decide +kernel
theorem dX6_stale_104 : decode cX6_stale 104 = .ok (.goto (-90), 3) := by decide +kernel
theorem dX6_stale_107 : decode cX6_stale 107 = .ok (.iload_n 2, 1) := by decide +kernel
theorem dX6_stale_108 : decode cX6_stale 108 = .ok (.ireturn, 1) := by decide +kernel
theorem dX6_versions_0 : decode cX6_versions 0 = .ok (.aload_n 0, 1) := by decide +kernel
theorem dX6_versions_1 : decode cX6_versions 1 = .ok (.iload_n 1, 1) := by decide +kernel
theorem dX6_versions_2 : decode cX6_versions 2 = .ok (.invokevirtual 239, 3) := by decide +kernel
theorem dX6_versions_5 : decode cX6_versions 5 = .ok (.ifCond .eq 11, 3) := by decide +kernel
theorem dX6_versions_8 : decode cX6_versions 8 = .ok (.aload_n 0, 1) := by decide +kernel
theorem dX6_versions_9 : decode cX6_versions 9 = .ok (.iload_n 2, 1) := by decide +kernel
theorem dX6_versions_10 : decode cX6_versions 10 = .ok (.invokevirtual 215, 3) := by decide +kernel
theorem dX6_versions_13 : decode cX6_versions 13 = .ok (.ifCond .ne 5, 3) := by decide +kernel
theorem dX6_versions_16 : decode cX6_versions 16 = .ok (.iconst (-1), 1) := by decide +kernel
theorem dX6_versions_17 : decode cX6_versions 17 = .ok (.ireturn, 1) := by decide +kernel
theorem dX6_versions_18 : decode cX6_versions 18 = .ok (.aload_n 0, 1) := by decide +kernel
theorem dX6_versions_19 : decode cX6_versions 19 = .ok (.getfield 110, 3) := by decide +kernel
theorem dX6_versions_22 : decode cX6_versions 22 = .ok (.iload_n 1, 1) := by decide +kernel
theorem dX6_versions_23 : decode cX6_versions 23 = .ok (.iload_n 2, 1) := by decide +kernel
theorem dX6_versions_24 : decode cX6_versions 24 = .ok (.invokevirtual 258, 3) := by decide +kernel
theorem dX6_versions_27 : decode cX6_versions 27 = .ok (.ireturn, 1) := by decide +kernel
theorem dX6_version_0 : decode cX6_version 0 = .ok (.aload_n 0, 1) := by decide +kernel
theorem dX6_version_1 : decode cX6_version 1 = .ok (.iload_n 1, 1) := by decide +kernel
theorem dX6_version_2 : decode cX6_version 2 = .ok (.invokevirtual 239, 3) := by decide +kernel
theorem dX6_version_5 : decode cX6_version 5 = .ok (.ifCond .eq 15, 3) := by decide +kernel
theorem dX6_version_8 : decode cX6_version 8 = .ok (.aload_n 0, 1) := by decide +kernel
theorem dX6_version_9 : decode cX6_version 9 = .ok (.iload_n 2, 1) := by decide +kernel
theorem dX6_version_10 : decode cX6_version 10 = .ok (.invokevirtual 215, 3) := by decide +kernel
theorem dX6_version_13 : decode cX6_version 13 = .ok (.ifCond .eq 7, 3) := by decide +kernel
theorem dX6_version_16 : decode cX6_version 16 = .ok (.iload_n 3, 1) := by decide +kernel
theorem dX6_version_17 : decode cX6_version 17 = .ok (.ifCond .ge 5, 3) := by decide +kernel
theorem dX6_version_20 : decode cX6_version 20 = .ok (.iconst (-1), 1) := by decide +kernel
theorem dX6_version_21 : decode cX6_version 21 = .ok (.ireturn, 1) := by decide +kernel
theorem dX6_version_22 : decode cX6_version 22 = .ok (.iload_n 3, 1) := by decide +kernel
theorem dX6_version_23 : decode cX6_version 23 = .ok (.istore 4, 2) := by decide +kernel
theorem dX6_version_25 : decode cX6_version 25 = .ok (.aload_n 0, 1) := by decide +kernel
theorem dX6_version_26 : decode cX6_version 26 = .ok (.getfield 110, 3) := by decide +kernel
theorem dX6_version_29 : decode cX6_version 29 = .ok (.iload_n 2, 1) := by decide +kernel
theorem dX6_version_30 : decode cX6_version 30 = .ok (.aload_n 0, 1) := by decide +kernel
theorem dX6_version_31 : decode cX6_version 31 = .ok (.getfield 110, 3) := by decide +kernel
theorem dX6_version_34 : decode cX6_version 34 = .ok (.getfield 173, 3) := by decide +kernel
theorem dX6_version_37 : decode cX6_version 37 = .ok (.iload_n 1, 1) := by decide +kernel
theorem dX6_version_38 : decode cX6_version 38 = .ok (.iaload, 1) := by decide +kernel
theorem dX6_version_39 : decode cX6_version 39 = .ok (.invokevirtual 261, 3) := by decide +kernel
theorem dX6_version_42 : decode cX6_version 42 = .ok (.istore 5, 2) := by decide +kernel
theorem dX6_version_44 : decode cX6_version 44 = .ok (.iload 5, 2) := by decide +kernel
theorem dX6_version_46 : decode cX6_version 46 = .ok (.ifCond .le 14, 3) := by decide +kernel
theorem dX6_version_49 : decode cX6_version 49 = .ok (.iload 4, 2) := by decide +kernel
theorem dX6_version_51 : decode cX6_version 51 = .ok (.ifCond .ne 6, 3) := by decide +kernel
theorem dX6_version_54 : decode cX6_version 54 = .ok (.iload 5, 2) := by decide +kernel
theorem dX6_version_56 : decode cX6_version 56 = .ok (.ireturn, 1) := by decide +kernel
theorem dX6_version_57 : decode cX6_version 57 = .ok (.iinc 4 (-1), 3) := by decide +kernel
theorem dX6_version_60 : decode cX6_version 60 = .ok (.aload_n 0, 1) := by decide +kernel
theorem dX6_version_61 : decode cX6_version 61 = .ok (.getfield 110, 3) := by decide +kernel
theorem dX6_version_64 : decode cX6_version 64 = .ok (.getfield 173, 3) := by decide +kernel
theorem dX6_version_67 : decode cX6_version 67 = .ok (.iload_n 1, 1) := by decide +kernel
theorem dX6_version_68 : decode cX6_version 68 = .ok (.iaload, 1) := by decide +kernel
theorem dX6_version_69 : decode cX6_version 69 = .ok (.iconst 1, 1) := by decide +kernel
theorem dX6_version_70 : decode cX6_version 70 = .ok (.iadd, 1) := by decide +kernel
theorem dX6_version_71 : decode cX6_version 71 = .ok (.istore 6, 2) := by decide +kernel
theorem dX6_version_73 : decode cX6_version 73 = .ok (.iload 6, 2) := by decide +kernel
theorem dX6_version_75 : decode cX6_version 75 = .ok (.aload_n 0, 1) := by decide +kernel
theorem dX6_version_76 : decode cX6_version 76 = .ok (.getfield 110, 3) := by decide +kernel
theorem dX6_version_79 : decode cX6_version 79 = .ok (.getfield 170, 3) := by decide +kernel
theorem dX6_version_82 : decode cX6_version 82 = .ok (.iload_n 1, 1) := by decide +kernel
theorem dX6_version_83 : decode cX6_version 83 = .ok (.iaload, 1) := by decide +kernel
theorem dX6_version_84 : decode cX6_version 84 = .ok (.if_icmp .gt 34, 3) := by decide +kernel
theorem dX6_version_87 : decode cX6_version 87 = .ok (.aload_n 0, 1) := by decide +kernel
theorem dX6_version_88 : decode cX6_version 88 = .ok (.getfield 110, 3) := by decide +kernel
theorem dX6_version_91 : decode cX6_version 91 = .ok (.getfield 198, 3) := by decide +kernel
theorem dX6_version_94 : decode cX6_version 94 = .ok (.iload 6, 2) := by decide +kernel
theorem dX6_version_96 : decode cX6_version 96 = .ok (.iaload, 1) := by decide +kernel
theorem dX6_version_97 : decode cX6_version 97 = .ok (.iload_n 2, 1) := by decide +kernel
theorem dX6_version_98 : decode cX6_version 98 = .ok (.if_icmp .ne 14, 3) := by decide +kernel
theorem dX6_version_101 : decode cX6_version 101 = .ok (.iload 4, 2) := by decide +kernel
theorem dX6_version_103 : decode cX6_version 103 = .ok (.ifCond .ne 6, 3) := by decide +kernel
theorem dX6_version_106 : decode cX6_version 106 = .ok (.iload 6, 2) := by decide +kernel
theorem dX6_version_108 : decode cX6_version 108 = .ok (.ireturn, 1) := by decide +kernel
theorem dX6_version_109 : decode cX6_version 109 = .ok (.iinc 4 (-1), 3) := by decide +kernel
theorem dX6_version_112 : decode cX6_version 112 = .ok (.iinc 6 1, 3) := by decide +kernel
theorem dX6_version_115 : decode cX6_version 115 = .ok (.goto (-42), 3) := by decide +kernel
theorem dX6_version_118 : decode cX6_version 118 = .ok (.iconst (-1), 1) := by decide +kernel
theorem dX6_version_119 : decode cX6_version 119 = .ok (.ireturn, 1) := by decide +kernel
theorem dX6_will_0 : decode cX6_will 0 = .ok (.iload_n 1, 1) := by decide +kernel
theorem dX6_will_1 : decode cX6_will 1 = .ok (.ifCond .lt 28, 3) := by decide +kernel
theorem dX6_will_4 : decode cX6_will 4 = .ok (.iload_n 1, 1) := by decide +kernel
theorem dX6_will_5 : decode cX6_will 5 = .ok (.bipush 60, 2) := by decide +kernel
theorem dX6_will_7 : decode cX6_will 7 = .ok (.if_icmp .gt 22, 3) := by decide +kernel
theorem dX6_will_10 : decode cX6_will 10 = .ok (.iload_n 2, 1) := by decide +kernel
theorem dX6_will_11 : decode cX6_will 11 = .ok (.ifCond .lt 18, 3) := by decide +kernel
theorem dX6_will_14 : decode cX6_will 14 = .ok (.iload_n 2, 1) := by decide +kernel
theorem dX6_will_15 : decode cX6_will 15 = .ok (.iconst 1, 1) := by decide +kernel
theorem dX6_will_16 : decode cX6_will 16 = .ok (.if_icmp .gt 13, 3) := by decide +kernel
theorem dX6_will_19 : decode cX6_will 19 = .ok (.aload_n 0, 1) := by decide +kernel
theorem dX6_will_20 : decode cX6_will 20 = .ok (.getfield 110, 3) := by decide +kernel
theorem dX6_will_23 : decode cX6_will 23 = .ok (.getfield 157, 3) := by decide +kernel
theorem dX6_will_26 : decode cX6_will 26 = .ok (.ifCond .ne 5, 3) := by decide +kernel
theorem dX6_will_29 : decode cX6_will 29 = .ok (.iconst (-1), 1) := by decide +kernel
theorem dX6_will_30 : decode cX6_will 30 = .ok (.ireturn, 1) := by decide +kernel
theorem dX6_will_31 : decode cX6_will 31 = .ok (.aload_n 0, 1) := by decide +kernel
theorem dX6_will_32 : decode cX6_will 32 = .ok (.getfield 48, 3) := by decide +kernel
theorem dX6_will_35 : decode cX6_will 35 = .ok (.aload_n 0, 1) := by decide +kernel
theorem dX6_will_36 : decode cX6_will 36 = .ok (.getfield 110, 3) := by decide +kernel
theorem dX6_will_39 : decode cX6_will 39 = .ok (.invokevirtual 228, 3) := by decide +kernel
theorem dX6_will_42 : decode cX6_will 42 = .ok (.iconst 0, 1) := by decide +kernel
theorem dX6_will_43 : decode cX6_will 43 = .ok (.istore_n 3, 1) := by decide +kernel
theorem dX6_will_44 : decode cX6_will 44 = .ok (.iload_n 3, 1) := by decide +kernel
theorem dX6_will_45 : decode cX6_will 45 = .ok (.iload_n 1, 1) := by decide +kernel
theorem dX6_will_46 : decode cX6_will 46 = .ok (.if_icmp .ge 37, 3) := by decide +kernel
theorem dX6_will_49 : decode cX6_will 49 = .ok (.aload_n 0, 1) := by decide +kernel
theorem dX6_will_50 : decode cX6_will 50 = .ok (.getfield 37, 3) := by decide +kernel
theorem dX6_will_53 : decode cX6_will 53 = .ok (.aload_n 0, 1) := by decide +kernel
theorem dX6_will_54 : decode cX6_will 54 = .ok (.getfield 48, 3) := by decide +kernel
theorem dX6_will_57 : decode cX6_will 57 = .ok (.invokevirtual 232, 3) := by decide +kernel
theorem dX6_will_60 : decode cX6_will 60 = .ok (.pop, 1) := by decide +kernel
theorem dX6_will_61 : decode cX6_will 61 = .ok (.iload_n 2, 1) := by decide +kernel
theorem dX6_will_62 : decode cX6_will 62 = .ok (.iconst 1, 1) := by decide +kernel
theorem dX6_will_63 : decode cX6_will 63 = .ok (.if_icmp .ne 14, 3) := by decide +kernel
theorem dX6_will_66 : decode cX6_will 66 = .ok (.aload_n 0, 1) := by decide +kernel
theorem dX6_will_67 : decode cX6_will 67 = .ok (.getfield 37, 3) := by decide +kernel
theorem dX6_will_70 : decode cX6_will 70 = .ok (.aload_n 0, 1) := by decide +kernel
theorem dX6_will_71 : decode cX6_will 71 = .ok (.getfield 48, 3) := by decide +kernel
theorem dX6_will_74 : decode cX6_will 74 = .ok (.invokevirtual 236, 3) := by decide +kernel
theorem dX6_will_77 : decode cX6_will 77 = .ok (.iinc 3 1, 3) := by decide +kernel
theorem dX6_will_80 : decode cX6_will 80 = .ok (.goto (-36), 3) := by decide +kernel
theorem dX6_will_83 : decode cX6_will 83 = .ok (.aload_n 0, 1) := by decide +kernel
theorem dX6_will_84 : decode cX6_will 84 = .ok (.getfield 48, 3) := by decide +kernel
theorem dX6_will_87 : decode cX6_will 87 = .ok (.invokevirtual 204, 3) := by decide +kernel
theorem dX6_will_90 : decode cX6_will 90 = .ok (.ireturn, 1) := by decide +kernel
theorem dX6_when_0 : decode cX6_when 0 = .ok (.iload_n 1, 1) := by decide +kernel
theorem dX6_when_1 : decode cX6_when 1 = .ok (.iconst 1, 1) := by decide +kernel
theorem dX6_when_2 : decode cX6_when 2 = .ok (.if_icmp .lt 14, 3) := by decide +kernel
theorem dX6_when_5 : decode cX6_when 5 = .ok (.iload_n 1, 1) := by decide +kernel
theorem dX6_when_6 : decode cX6_when 6 = .ok (.aload_n 0, 1) := by decide +kernel
theorem dX6_when_7 : decode cX6_when 7 = .ok (.getfield 110, 3) := by decide +kernel
theorem dX6_when_10 : decode cX6_when 10 = .ok (.invokevirtual 195, 3) := by decide +kernel
theorem dX6_when_13 : decode cX6_when 13 = .ok (.if_icmp .le 5, 3) := by decide +kernel
theorem dX6_when_16 : decode cX6_when 16 = .ok (.iconst (-1), 1) := by decide +kernel
theorem dX6_when_17 : decode cX6_when 17 = .ok (.ireturn, 1) := by decide +kernel
theorem dX6_when_18 : decode cX6_when 18 = .ok (.aload_n 0, 1) := by decide +kernel
theorem dX6_when_19 : decode cX6_when 19 = .ok (.getfield 48, 3) := by decide +kernel
theorem dX6_when_22 : decode cX6_when 22 = .ok (.aload_n 0, 1) := by decide +kernel
theorem dX6_when_23 : decode cX6_when 23 = .ok (.getfield 110, 3) := by decide +kernel
theorem dX6_when_26 : decode cX6_when 26 = .ok (.invokevirtual 228, 3) := by decide +kernel
theorem dX6_when_29 : decode cX6_when 29 = .ok (.aload_n 0, 1) := by decide +kernel
theorem dX6_when_30 : decode cX6_when 30 = .ok (.aload_n 0, 1) := by decide +kernel
theorem dX6_when_31 : decode cX6_when 31 = .ok (.getfield 48, 3) := by decide +kernel
theorem dX6_when_34 : decode cX6_when 34 = .ok (.iload_n 1, 1) := by decide +kernel
theorem dX6_when_35 : decode cX6_when 35 = .ok (.invokevirtual 264, 3) := by decide +kernel
theorem dX6_when_38 : decode cX6_when 38 = .ok (.ireturn, 1) := by decide +kernel
theorem dX6_ticksTillAnswered_0 : decode cX6_ticksTillAnswered 0 = .ok (.iconst 0, 1) := by decide +kernel
theorem dX6_ticksTillAnswered_1 : decode cX6_ticksTillAnswered 1 = .ok (.istore_n 3, 1) := by decide +kernel
theorem dX6_ticksTillAnswered_2 : decode cX6_ticksTillAnswered 2 = .ok (.iload_n 3, 1) := by decide +kernel
theorem dX6_ticksTillAnswered_3 : decode cX6_ticksTillAnswered 3 = .ok (.sipush 400, 3) := by decide +kernel
theorem dX6_ticksTillAnswered_6 : decode cX6_ticksTillAnswered 6 = .ok (.if_icmp .gt 28, 3) := by decide +kernel
theorem dX6_ticksTillAnswered_9 : decode cX6_ticksTillAnswered 9 = .ok (.aload_n 1, 1) := by decide +kernel
theorem dX6_ticksTillAnswered_10 : decode cX6_ticksTillAnswered 10 = .ok (.invokevirtual 204, 3) := by decide +kernel
theorem dX6_ticksTillAnswered_13 : decode cX6_ticksTillAnswered 13 = .ok (.iload_n 2, 1) := by decide +kernel
theorem dX6_ticksTillAnswered_14 : decode cX6_ticksTillAnswered 14 = .ok (.if_icmp .lt 5, 3) := by decide +kernel
theorem dX6_ticksTillAnswered_17 : decode cX6_ticksTillAnswered 17 = .ok (.iload_n 3, 1) := by decide +kernel
theorem dX6_ticksTillAnswered_18 : decode cX6_ticksTillAnswered 18 = .ok (.ireturn, 1) := by decide +kernel
theorem dX6_ticksTillAnswered_19 : decode cX6_ticksTillAnswered 19 = .ok (.aload_n 0, 1) := by decide +kernel
theorem dX6_ticksTillAnswered_20 : decode cX6_ticksTillAnswered 20 = .ok (.getfield 37, 3) := by decide +kernel
theorem dX6_ticksTillAnswered_23 : decode cX6_ticksTillAnswered 23 = .ok (.aload_n 1, 1) := by decide +kernel
theorem dX6_ticksTillAnswered_24 : decode cX6_ticksTillAnswered 24 = .ok (.invokevirtual 232, 3) := by decide +kernel
theorem dX6_ticksTillAnswered_27 : decode cX6_ticksTillAnswered 27 = .ok (.pop, 1) := by decide +kernel
theorem dX6_ticksTillAnswered_28 : decode cX6_ticksTillAnswered 28 = .ok (.iinc 3 1, 3) := by decide +kernel
theorem dX6_ticksTillAnswered_31 : decode cX6_ticksTillAnswered 31 = .ok (.goto (-29), 3) := by decide +kernel
theorem dX6_ticksTillAnswered_34 : decode cX6_ticksTillAnswered 34 = .ok (.iconst (-1), 1) := by decide +kernel
theorem dX6_ticksTillAnswered_35 : decode cX6_ticksTillAnswered 35 = .ok (.ireturn, 1) := by decide +kernel
theorem dX6_still_0 : decode cX6_still 0 = .ok (.aload_n 0, 1) := by decide +kernel
theorem dX6_still_1 : decode cX6_still 1 = .ok (.getfield 48, 3) := by decide +kernel
theorem dX6_still_4 : decode cX6_still 4 = .ok (.aload_n 0, 1) := by decide +kernel
theorem dX6_still_5 : decode cX6_still 5 = .ok (.getfield 110, 3) := by decide +kernel
theorem dX6_still_8 : decode cX6_still 8 = .ok (.invokevirtual 228, 3) := by decide +kernel
theorem dX6_still_11 : decode cX6_still 11 = .ok (.iconst 0, 1) := by decide +kernel
theorem dX6_still_12 : decode cX6_still 12 = .ok (.istore_n 1, 1) := by decide +kernel
theorem dX6_still_13 : decode cX6_still 13 = .ok (.iload_n 1, 1) := by decide +kernel
theorem dX6_still_14 : decode cX6_still 14 = .ok (.sipush 400, 3) := by decide +kernel
theorem dX6_still_17 : decode cX6_still 17 = .ok (.if_icmp .gt 44, 3) := by decide +kernel
theorem dX6_still_20 : decode cX6_still 20 = .ok (.aload_n 0, 1) := by decide +kernel
theorem dX6_still_21 : decode cX6_still 21 = .ok (.getfield 48, 3) := by decide +kernel
theorem dX6_still_24 : decode cX6_still 24 = .ok (.getfield 176, 3) := by decide +kernel
theorem dX6_still_27 : decode cX6_still 27 = .ok (.iconst (-1), 1) := by decide +kernel
theorem dX6_still_28 : decode cX6_still 28 = .ok (.if_icmp .ne 15, 3) := by decide +kernel
theorem dX6_still_31 : decode cX6_still 31 = .ok (.aload_n 0, 1) := by decide +kernel
theorem dX6_still_32 : decode cX6_still 32 = .ok (.getfield 48, 3) := by decide +kernel
theorem dX6_still_35 : decode cX6_still 35 = .ok (.invokevirtual 267, 3) := by decide +kernel
theorem dX6_still_38 : decode cX6_still 38 = .ok (.ifCond .ne 5, 3) := by decide +kernel
theorem dX6_still_41 : decode cX6_still 41 = .ok (.iload_n 1, 1) := by decide +kernel
theorem dX6_still_42 : decode cX6_still 42 = .ok (.ireturn, 1) := by decide +kernel
theorem dX6_still_43 : decode cX6_still 43 = .ok (.aload_n 0, 1) := by decide +kernel
theorem dX6_still_44 : decode cX6_still 44 = .ok (.getfield 37, 3) := by decide +kernel
theorem dX6_still_47 : decode cX6_still 47 = .ok (.aload_n 0, 1) := by decide +kernel
theorem dX6_still_48 : decode cX6_still 48 = .ok (.getfield 48, 3) := by decide +kernel
theorem dX6_still_51 : decode cX6_still 51 = .ok (.invokevirtual 232, 3) := by decide +kernel
theorem dX6_still_54 : decode cX6_still 54 = .ok (.pop, 1) := by decide +kernel
theorem dX6_still_55 : decode cX6_still 55 = .ok (.iinc 1 1, 3) := by decide +kernel
theorem dX6_still_58 : decode cX6_still 58 = .ok (.goto (-45), 3) := by decide +kernel
theorem dX6_still_61 : decode cX6_still 61 = .ok (.iconst (-1), 1) := by decide +kernel
theorem dX6_still_62 : decode cX6_still 62 = .ok (.ireturn, 1) := by decide +kernel
theorem dX6_drops_0 : decode cX6_drops 0 = .ok (.aload_n 0, 1) := by decide +kernel
theorem dX6_drops_1 : decode cX6_drops 1 = .ok (.getfield 110, 3) := by decide +kernel
theorem dX6_drops_4 : decode cX6_drops 4 = .ok (.invokevirtual 270, 3) := by decide +kernel
theorem dX6_drops_7 : decode cX6_drops 7 = .ok (.istore_n 2, 1) := by decide +kernel
theorem dX6_drops_8 : decode cX6_drops 8 = .ok (.iload_n 1, 1) := by decide +kernel
theorem dX6_drops_9 : decode cX6_drops 9 = .ok (.iload_n 2, 1) := by decide +kernel
theorem dX6_drops_10 : decode cX6_drops 10 = .ok (.iconst (-1), 1) := by decide +kernel
theorem dX6_drops_11 : decode cX6_drops 11 = .ok (.ixor, 1) := by decide +kernel
theorem dX6_drops_12 : decode cX6_drops 12 = .ok (.iand, 1) := by decide +kernel
theorem dX6_drops_13 : decode cX6_drops 13 = .ok (.ifCond .ne 8, 3) := by decide +kernel
theorem dX6_drops_16 : decode cX6_drops 16 = .ok (.iload_n 1, 1) := by decide +kernel
theorem dX6_drops_17 : decode cX6_drops 17 = .ok (.iload_n 2, 1) := by decide +kernel
theorem dX6_drops_18 : decode cX6_drops 18 = .ok (.if_icmp .ne 5, 3) := by decide +kernel
theorem dX6_drops_21 : decode cX6_drops 21 = .ok (.iconst (-1), 1) := by decide +kernel
theorem dX6_drops_22 : decode cX6_drops 22 = .ok (.ireturn, 1) := by decide +kernel
theorem dX6_drops_23 : decode cX6_drops 23 = .ok (.aload_n 0, 1) := by decide +kernel
theorem dX6_drops_24 : decode cX6_drops 24 = .ok (.getfield 110, 3) := by decide +kernel
theorem dX6_drops_27 : decode cX6_drops 27 = .ok (.iload_n 1, 1) := by decide +kernel
theorem dX6_drops_28 : decode cX6_drops 28 = .ok (.invokevirtual 273, 3) := by decide +kernel
theorem dX6_drops_31 : decode cX6_drops 31 = .ok (.ireturn, 1) := by decide +kernel
theorem dX6_worst_0 : decode cX6_worst 0 = .ok (.iload_n 1, 1) := by decide +kernel
theorem dX6_worst_1 : decode cX6_worst 1 = .ok (.iconst 1, 1) := by decide +kernel
theorem dX6_worst_2 : decode cX6_worst 2 = .ok (.if_icmp .lt 28, 3) := by decide +kernel
theorem dX6_worst_5 : decode cX6_worst 5 = .ok (.iload_n 1, 1) := by decide +kernel
theorem dX6_worst_6 : decode cX6_worst 6 = .ok (.iconst 5, 1) := by decide +kernel
theorem dX6_worst_7 : decode cX6_worst 7 = .ok (.if_icmp .gt 23, 3) := by decide +kernel
theorem dX6_worst_10 : decode cX6_worst 10 = .ok (.iload_n 1, 1) := by decide +kernel
theorem dX6_worst_11 : decode cX6_worst 11 = .ok (.aload_n 0, 1) := by decide +kernel
theorem dX6_worst_12 : decode cX6_worst 12 = .ok (.getfield 110, 3) := by decide +kernel
theorem dX6_worst_15 : decode cX6_worst 15 = .ok (.getfield 157, 3) := by decide +kernel
theorem dX6_worst_18 : decode cX6_worst 18 = .ok (.if_icmp .ge 12, 3) := by decide +kernel
theorem dX6_worst_21 : decode cX6_worst 21 = .ok (.iload_n 2, 1) := by decide +kernel
theorem dX6_worst_22 : decode cX6_worst 22 = .ok (.ifCond .lt 8, 3) := by decide +kernel
theorem dX6_worst_25 : decode cX6_worst 25 = .ok (.iload_n 2, 1) := by decide +kernel
theorem dX6_worst_26 : decode cX6_worst 26 = .ok (.iconst 1, 1) := by decide +kernel
theorem dX6_worst_27 : decode cX6_worst 27 = .ok (.if_icmp .le 5, 3) := by decide +kernel
theorem dX6_worst_30 : decode cX6_worst 30 = .ok (.iconst (-1), 1) := by decide +kernel
theorem dX6_worst_31 : decode cX6_worst 31 = .ok (.ireturn, 1) := by decide +kernel
theorem dX6_worst_32 : decode cX6_worst 32 = .ok (.aload_n 0, 1) := by decide +kernel
theorem dX6_worst_33 : decode cX6_worst 33 = .ok (.getfield 110, 3) := by decide +kernel
theorem dX6_worst_36 : decode cX6_worst 36 = .ok (.invokevirtual 270, 3) := by decide +kernel
theorem dX6_worst_39 : decode cX6_worst 39 = .ok (.istore_n 3, 1) := by decide +kernel
theorem dX6_worst_40 : decode cX6_worst 40 = .ok (.iconst (-1), 1) := by decide +kernel
theorem dX6_worst_41 : decode cX6_worst 41 = .ok (.istore 4, 2) := by decide +kernel
theorem dX6_worst_43 : decode cX6_worst 43 = .ok (.iconst 0, 1) := by decide +kernel
theorem dX6_worst_44 : decode cX6_worst 44 = .ok (.istore 5, 2) := by decide +kernel
theorem dX6_worst_46 : decode cX6_worst 46 = .ok (.iconst 0, 1) := by decide +kernel
theorem dX6_worst_47 : decode cX6_worst 47 = .ok (.istore 6, 2) := by decide +kernel
theorem dX6_worst_49 : decode cX6_worst 49 = .ok (.iload 6, 2) := by decide +kernel
theorem dX6_worst_51 : decode cX6_worst 51 = .ok (.sipush 256, 3) := by decide +kernel
theorem dX6_worst_54 : decode cX6_worst 54 = .ok (.if_icmp .ge 56, 3) := by decide +kernel
theorem dX6_worst_57 : decode cX6_worst 57 = .ok (.iload 6, 2) := by decide +kernel
theorem dX6_worst_59 : decode cX6_worst 59 = .ok (.iload_n 3, 1) := by decide +kernel
theorem dX6_worst_60 : decode cX6_worst 60 = .ok (.iconst (-1), 1) := by decide +kernel
theorem dX6_worst_61 : decode cX6_worst 61 = .ok (.ixor, 1) := by decide +kernel
theorem dX6_worst_62 : decode cX6_worst 62 = .ok (.iand, 1) := by decide +kernel
theorem dX6_worst_63 : decode cX6_worst 63 = .ok (.ifCond .ne 41, 3) := by decide +kernel
theorem dX6_worst_66 : decode cX6_worst 66 = .ok (.iload 6, 2) := by decide +kernel
theorem dX6_worst_68 : decode cX6_worst 68 = .ok (.invokestatic 276, 3) := by decide +kernel
theorem dX6_worst_71 : decode cX6_worst 71 = .ok (.iload_n 1, 1) := by decide +kernel
theorem dX6_worst_72 : decode cX6_worst 72 = .ok (.if_icmp .ne 32, 3) := by decide +kernel
theorem dX6_worst_75 : decode cX6_worst 75 = .ok (.aload_n 0, 1) := by decide +kernel
theorem dX6_worst_76 : decode cX6_worst 76 = .ok (.getfield 110, 3) := by decide +kernel
theorem dX6_worst_79 : decode cX6_worst 79 = .ok (.iload 6, 2) := by decide +kernel
theorem dX6_worst_81 : decode cX6_worst 81 = .ok (.invokevirtual 273, 3) := by decide +kernel
theorem dX6_worst_84 : decode cX6_worst 84 = .ok (.iload 4, 2) := by decide +kernel
theorem dX6_worst_86 : decode cX6_worst 86 = .ok (.if_icmp .le 18, 3) := by decide +kernel
theorem dX6_worst_89 : decode cX6_worst 89 = .ok (.aload_n 0, 1) := by decide +kernel
theorem dX6_worst_90 : decode cX6_worst 90 = .ok (.getfield 110, 3) := by decide +kernel
theorem dX6_worst_93 : decode cX6_worst 93 = .ok (.iload 6, 2) := by decide +kernel
