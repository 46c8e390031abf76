theorem dX6_layFour_0 : decode cX6_layFour 0 = .ok (.bipush 24, 2) := by decide +kernel
theorem dX6_layFour_2 : decode cX6_layFour 2 = .ok (.istore_n 2, 1) := by decide +kernel
theorem dX6_layFour_3 : decode cX6_layFour 3 = .ok (.iload_n 2, 1) := by decide +kernel
theorem dX6_layFour_4 : decode cX6_layFour 4 = .ok (.ifCond .lt 44, 3) := by decide +kernel
theorem dX6_layFour_7 : decode cX6_layFour 7 = .ok (.aload_n 0, 1) := by decide +kernel
theorem dX6_layFour_8 : decode cX6_layFour 8 = .ok (.getfield 79, 3) := by decide +kernel
theorem dX6_layFour_11 : decode cX6_layFour 11 = .ok (.aload_n 0, 1) := by decide +kernel
theorem dX6_layFour_12 : decode cX6_layFour 12 = .ok (.getfield 9, 3) := by decide +kernel
theorem dX6_layFour_15 : decode cX6_layFour 15 = .ok (.arraylength, 1) := by decide +kernel
theorem dX6_layFour_16 : decode cX6_layFour 16 = .ok (.if_icmp .ge 26, 3) := by decide +kernel
theorem dX6_layFour_19 : decode cX6_layFour 19 = .ok (.aload_n 0, 1) := by decide +kernel
theorem dX6_layFour_20 : decode cX6_layFour 20 = .ok (.getfield 9, 3) := by decide +kernel
theorem dX6_layFour_23 : decode cX6_layFour 23 = .ok (.aload_n 0, 1) := by decide +kernel
theorem dX6_layFour_24 : decode cX6_layFour 24 = .ok (.getfield 79, 3) := by decide +kernel
theorem dX6_layFour_27 : decode cX6_layFour 27 = .ok (.iload_n 1, 1) := by decide +kernel
theorem dX6_layFour_28 : decode cX6_layFour 28 = .ok (.iload_n 2, 1) := by decide +kernel
theorem dX6_layFour_29 : decode cX6_layFour 29 = .ok (.iushr, 1) := by decide +kernel
theorem dX6_layFour_30 : decode cX6_layFour 30 = .ok (.i2b, 1) := by decide +kernel
theorem dX6_layFour_31 : decode cX6_layFour 31 = .ok (.bastore, 1) := by decide +kernel
theorem dX6_layFour_32 : decode cX6_layFour 32 = .ok (.aload_n 0, 1) := by decide +kernel
theorem dX6_layFour_33 : decode cX6_layFour 33 = .ok (.dup, 1) := by decide +kernel
theorem dX6_layFour_34 : decode cX6_layFour 34 = .ok (.getfield 79, 3) := by decide +kernel
theorem dX6_layFour_37 : decode cX6_layFour 37 = .ok (.iconst 1, 1) := by decide +kernel
theorem dX6_layFour_38 : decode cX6_layFour 38 = .ok (.iadd, 1) := by decide +kernel
theorem dX6_layFour_39 : decode cX6_layFour 39 = .ok (.putfield 79, 3) := by decide +kernel
theorem dX6_layFour_42 : decode cX6_layFour 42 = .ok (.iinc 2 (-8), 3) := by decide +kernel
theorem dX6_layFour_45 : decode cX6_layFour 45 = .ok (.goto (-42), 3) := by decide +kernel
theorem dX6_layFour_48 : decode cX6_layFour 48 = .ok (.return_, 1) := by decide +kernel
theorem dX6_feed_0 : decode cX6_feed 0 = .ok (.aload_n 0, 1) := by decide +kernel
theorem dX6_feed_1 : decode cX6_feed 1 = .ok (.getfield 79, 3) := by decide +kernel
theorem dX6_feed_4 : decode cX6_feed 4 = .ok (.bipush 20, 2) := by decide +kernel
theorem dX6_feed_6 : decode cX6_feed 6 = .ok (.iadd, 1) := by decide +kernel
theorem dX6_feed_7 : decode cX6_feed 7 = .ok (.sipush 1600, 3) := by decide +kernel
theorem dX6_feed_10 : decode cX6_feed 10 = .ok (.if_icmp .le 5, 3) := by decide +kernel
theorem dX6_feed_15 : decode cX6_feed 15 = .ok (.aload_n 0, 1) := by decide +kernel
theorem dX6_feed_16 : decode cX6_feed 16 = .ok (.iload_n 1, 1) := by decide +kernel
theorem dX6_feed_17 : decode cX6_feed 17 = .ok (.invokevirtual 83, 3) := by decide +kernel
theorem dX6_feed_20 : decode cX6_feed 20 = .ok (.aload_n 0, 1) := by decide +kernel
theorem dX6_feed_21 : decode cX6_feed 21 = .ok (.iload_n 2, 1) := by decide +kernel
theorem dX6_feed_22 : decode cX6_feed 22 = .ok (.invokevirtual 83, 3) := by decide +kernel
theorem dX6_feed_25 : decode cX6_feed 25 = .ok (.aload_n 0, 1) := by decide +kernel
theorem dX6_feed_26 : decode cX6_feed 26 = .ok (.iload_n 3, 1) := by decide +kernel
theorem dX6_feed_27 : decode cX6_feed 27 = .ok (.invokevirtual 83, 3) := by decide +kernel
theorem dX6_feed_30 : decode cX6_feed 30 = .ok (.aload_n 0, 1) := by decide +kernel
theorem dX6_feed_31 : decode cX6_feed 31 = .ok (.iload 4, 2) := by decide +kernel
theorem dX6_feed_33 : decode cX6_feed 33 = .ok (.invokevirtual 83, 3) := by decide +kernel
theorem dX6_feed_36 : decode cX6_feed 36 = .ok (.aload_n 0, 1) := by decide +kernel
theorem dX6_feed_37 : decode cX6_feed 37 = .ok (.iload 5, 2) := by decide +kernel
theorem dX6_feed_39 : decode cX6_feed 39 = .ok (.invokevirtual 83, 3) := by decide +kernel
theorem dX6_feed_42 : decode cX6_feed 42 = .ok (.aload_n 0, 1) := by decide +kernel
theorem dX6_feed_43 : decode cX6_feed 43 = .ok (.getfield 79, 3) := by decide +kernel
theorem dX6_feed_46 : decode cX6_feed 46 = .ok (.ireturn, 1) := by decide +kernel
theorem dX6_end_0 : decode cX6_end 0 = .ok (.iload_n 1, 1) := by decide +kernel
theorem dX6_end_1 : decode cX6_end 1 = .ok (.ifCond .lt 11, 3) := by decide +kernel
theorem dX6_end_12 : decode cX6_end 12 = .ok (.iconst (-1), 1) := by decide +kernel
theorem dX6_end_13 : decode cX6_end 13 = .ok (.ireturn, 1) := by decide +kernel
theorem dX6_end_4 : decode cX6_end 4 = .ok (.iload_n 1, 1) := by decide +kernel
theorem dX6_end_5 : decode cX6_end 5 = .ok (.aload_n 0, 1) := by decide +kernel
theorem dX6_end_6 : decode cX6_end 6 = .ok (.getfield 79, 3) := by decide +kernel
theorem dX6_end_9 : decode cX6_end 9 = .ok (.if_icmp .le 5, 3) := by decide +kernel
theorem dX6_end_14 : decode cX6_end 14 = .ok (.aload_n 0, 1) := by decide +kernel
theorem dX6_end_15 : decode cX6_end 15 = .ok (.iload_n 1, 1) := by decide +kernel
theorem dX6_end_16 : decode cX6_end 16 = .ok (.putfield 79, 3) := by decide +kernel
theorem dX6_end_19 : decode cX6_end 19 = .ok (.iload_n 1, 1) := by decide +kernel
theorem dX6_end_20 : decode cX6_end 20 = .ok (.ireturn, 1) := by decide +kernel
theorem dX0_clear_0 : decode cX0_clear 0 = .ok (.aload_n 0, 1) := by decide +kernel
theorem dX0_clear_1 : decode cX0_clear 1 = .ok (.iconst 0, 1) := by decide +kernel
theorem dX0_clear_2 : decode cX0_clear 2 = .ok (.putfield 21, 3) := by decide +kernel
theorem dX0_clear_5 : decode cX0_clear 5 = .ok (.return_, 1) := by decide +kernel
theorem dX1_clear_0 : decode cX1_clear 0 = .ok (.aload_n 0, 1) := by decide +kernel
theorem dX1_clear_1 : decode cX1_clear 1 = .ok (.getfield 25, 3) := by decide +kernel
theorem dX1_clear_4 : decode cX1_clear 4 = .ok (.invokevirtual 32, 3) := by decide +kernel
theorem dX1_clear_7 : decode cX1_clear 7 = .ok (.aload_n 0, 1) := by decide +kernel
theorem dX1_clear_8 : decode cX1_clear 8 = .ok (.iconst 0, 1) := by decide +kernel
theorem dX1_clear_9 : decode cX1_clear 9 = .ok (.putfield 33, 3) := by decide +kernel
theorem dX1_clear_12 : decode cX1_clear 12 = .ok (.aload_n 0, 1) := by decide +kernel
theorem dX1_clear_13 : decode cX1_clear 13 = .ok (.iconst 0, 1) := by decide +kernel
theorem dX1_clear_14 : decode cX1_clear 14 = .ok (.putfield 37, 3) := by decide +kernel
theorem dX1_clear_17 : decode cX1_clear 17 = .ok (.aload_n 0, 1) := by decide +kernel
theorem dX1_clear_18 : decode cX1_clear 18 = .ok (.iconst 0, 1) := by decide +kernel
theorem dX1_clear_19 : decode cX1_clear 19 = .ok (.putfield 40, 3) := by decide +kernel
theorem dX1_clear_22 : decode cX1_clear 22 = .ok (.aload_n 0, 1) := by decide +kernel
theorem dX1_clear_23 : decode cX1_clear 23 = .ok (.iconst 0, 1) := by decide +kernel
theorem dX1_clear_24 : decode cX1_clear 24 = .ok (.putfield 43, 3) := by decide +kernel
theorem dX1_clear_27 : decode cX1_clear 27 = .ok (.aload_n 0, 1) := by decide +kernel
theorem dX1_clear_28 : decode cX1_clear 28 = .ok (.iconst 2, 1) := by decide +kernel
theorem dX1_clear_29 : decode cX1_clear 29 = .ok (.putfield 46, 3) := by decide +kernel
theorem dX1_clear_32 : decode cX1_clear 32 = .ok (.aload_n 0, 1) := by decide +kernel
theorem dX1_clear_33 : decode cX1_clear 33 = .ok (.iconst 0, 1) := by decide +kernel
theorem dX1_clear_34 : decode cX1_clear 34 = .ok (.putfield 49, 3) := by decide +kernel
theorem dX1_clear_37 : decode cX1_clear 37 = .ok (.aload_n 0, 1) := by decide +kernel
theorem dX1_clear_38 : decode cX1_clear 38 = .ok (.iconst 0, 1) := by decide +kernel
theorem dX1_clear_39 : decode cX1_clear 39 = .ok (.putfield 52, 3) := by decide +kernel
theorem dX1_clear_42 : decode cX1_clear 42 = .ok (.return_, 1) := by decide +kernel
theorem dX2_advance_0 : decode cX2_advance 0 = .ok (.aload_n 0, 1) := by decide +kernel
theorem dX2_advance_1 : decode cX2_advance 1 = .ok (.getfield 32, 3) := by decide +kernel
theorem dX2_advance_4 : decode cX2_advance 4 = .ok (.aload_n 0, 1) := by decide +kernel
theorem dX2_advance_5 : decode cX2_advance 5 = .ok (.getfield 29, 3) := by decide +kernel
theorem dX2_advance_8 : decode cX2_advance 8 = .ok (.if_icmp .ge 42, 3) := by decide +kernel
theorem dX2_advance_50 : decode cX2_advance 50 = .ok (.aload_n 0, 1) := by decide +kernel
theorem dX2_advance_51 : decode cX2_advance 51 = .ok (.aload_n 0, 1) := by decide +kernel
theorem dX2_advance_52 : decode cX2_advance 52 = .ok (.getfield 32, 3) := by decide +kernel
theorem dX2_advance_55 : decode cX2_advance 55 = .ok (.putfield 59, 3) := by decide +kernel
theorem dX2_advance_58 : decode cX2_advance 58 = .ok (.aload_n 0, 1) := by decide +kernel
theorem dX2_advance_59 : decode cX2_advance 59 = .ok (.getfield 32, 3) := by decide +kernel
theorem dX2_advance_62 : decode cX2_advance 62 = .ok (.aload_n 0, 1) := by decide +kernel
theorem dX2_advance_63 : decode cX2_advance 63 = .ok (.getfield 29, 3) := by decide +kernel
theorem dX2_advance_66 : decode cX2_advance 66 = .ok (.if_icmp .lt 11, 3) := by decide +kernel
theorem dX2_advance_69 : decode cX2_advance 69 = .ok (.aload_n 0, 1) := by decide +kernel
theorem dX2_advance_70 : decode cX2_advance 70 = .ok (.iconst 0, 1) := by decide +kernel
theorem dX2_advance_71 : decode cX2_advance 71 = .ok (.putfield 53, 3) := by decide +kernel
theorem dX2_advance_74 : decode cX2_advance 74 = .ok (.goto 83, 3) := by decide +kernel
theorem dX2_advance_157 : decode cX2_advance 157 = .ok (.return_, 1) := by decide +kernel
theorem dX2_isGood_0 : decode cX2_isGood 0 = .ok (.aload_n 0, 1) := by decide +kernel
theorem dX2_isGood_1 : decode cX2_isGood 1 = .ok (.getfield 43, 3) := by decide +kernel
theorem dX2_isGood_4 : decode cX2_isGood 4 = .ok (.ifCond .ne 7, 3) := by decide +kernel
theorem dX2_isGood_7 : decode cX2_isGood 7 = .ok (.iconst 1, 1) := by decide +kernel
theorem dX2_isGood_8 : decode cX2_isGood 8 = .ok (.goto 4, 3) := by decide +kernel
theorem dX2_isGood_12 : decode cX2_isGood 12 = .ok (.ireturn, 1) := by decide +kernel
theorem dX2_understands_0 : decode cX2_understands 0 = .ok (.aload_n 0, 1) := by decide +kernel
theorem dX2_understands_1 : decode cX2_understands 1 = .ok (.iload_n 1, 1) := by decide +kernel
theorem dX2_understands_2 : decode cX2_understands 2 = .ok (.aload_n 0, 1) := by decide +kernel
theorem dX2_understands_3 : decode cX2_understands 3 = .ok (.getfield 15, 3) := by decide +kernel
theorem dX2_understands_6 : decode cX2_understands 6 = .ok (.arraylength, 1) := by decide +kernel
theorem dX2_understands_7 : decode cX2_understands 7 = .ok (.invokestatic 23, 3) := by decide +kernel
theorem dX2_understands_10 : decode cX2_understands 10 = .ok (.putfield 29, 3) := by decide +kernel
theorem dX2_understands_13 : decode cX2_understands 13 = .ok (.aload_n 0, 1) := by decide +kernel
theorem dX2_understands_14 : decode cX2_understands 14 = .ok (.iconst 0, 1) := by decide +kernel
theorem dX2_understands_15 : decode cX2_understands 15 = .ok (.putfield 32, 3) := by decide +kernel
theorem dX2_understands_18 : decode cX2_understands 18 = .ok (.aload_n 0, 1) := by decide +kernel
theorem dX2_understands_19 : decode cX2_understands 19 = .ok (.aload_n 2, 1) := by decide +kernel
theorem dX2_understands_20 : decode cX2_understands 20 = .ok (.putfield 19, 3) := by decide +kernel
theorem dX2_understands_23 : decode cX2_understands 23 = .ok (.aload_n 0, 1) := by decide +kernel
theorem dX2_understands_24 : decode cX2_understands 24 = .ok (.getfield 19, 3) := by decide +kernel
theorem dX2_understands_27 : decode cX2_understands 27 = .ok (.invokevirtual 35, 3) := by decide +kernel
theorem dX2_understands_30 : decode cX2_understands 30 = .ok (.aload_n 0, 1) := by decide +kernel
theorem dX2_understands_31 : decode cX2_understands 31 = .ok (.iconst 0, 1) := by decide +kernel
theorem dX2_understands_32 : decode cX2_understands 32 = .ok (.putfield 40, 3) := by decide +kernel
theorem dX2_understands_35 : decode cX2_understands 35 = .ok (.aload_n 0, 1) := by decide +kernel
theorem dX2_understands_36 : decode cX2_understands 36 = .ok (.iconst 0, 1) := by decide +kernel
theorem dX2_understands_37 : decode cX2_understands 37 = .ok (.putfield 43, 3) := by decide +kernel
theorem dX2_understands_40 : decode cX2_understands 40 = .ok (.aload_n 0, 1) := by decide +kernel
theorem dX2_understands_41 : decode cX2_understands 41 = .ok (.iconst (-1), 1) := by decide +kernel
theorem dX2_understands_42 : decode cX2_understands 42 = .ok (.putfield 9, 3) := by decide +kernel
theorem dX2_understands_45 : decode cX2_understands 45 = .ok (.aload_n 0, 1) := by decide +kernel
theorem dX2_understands_46 : decode cX2_understands 46 = .ok (.invokevirtual 46, 3) := by decide +kernel
theorem dX2_understands_49 : decode cX2_understands 49 = .ok (.iconst 0, 1) := by decide +kernel
theorem dX2_understands_50 : decode cX2_understands 50 = .ok (.istore_n 3, 1) := by decide +kernel
theorem dX2_understands_51 : decode cX2_understands 51 = .ok (.iload_n 3, 1) := by decide +kernel
theorem dX2_understands_52 : decode cX2_understands 52 = .ok (.aload_n 0, 1) := by decide +kernel
theorem dX2_understands_53 : decode cX2_understands 53 = .ok (.getfield 29, 3) := by decide +kernel
theorem dX2_understands_56 : decode cX2_understands 56 = .ok (.if_icmp .gt 27, 3) := by decide +kernel
theorem dX2_understands_59 : decode cX2_understands 59 = .ok (.aload_n 0, 1) := by decide +kernel
theorem dX2_understands_60 : decode cX2_understands 60 = .ok (.invokevirtual 49, 3) := by decide +kernel
theorem dX2_understands_63 : decode cX2_understands 63 = .ok (.ifCond .eq 20, 3) := by decide +kernel
theorem dX2_understands_66 : decode cX2_understands 66 = .ok (.aload_n 0, 1) := by decide +kernel
theorem dX2_understands_67 : decode cX2_understands 67 = .ok (.getfield 53, 3) := by decide +kernel
theorem dX2_understands_70 : decode cX2_understands 70 = .ok (.ifCond .eq 13, 3) := by decide +kernel
theorem dX2_understands_83 : decode cX2_understands 83 = .ok (.aload_n 0, 1) := by decide +kernel
theorem dX2_understands_84 : decode cX2_understands 84 = .ok (.invokevirtual 49, 3) := by decide +kernel
theorem dX2_understands_87 : decode cX2_understands 87 = .ok (.ireturn, 1) := by decide +kernel
theorem dX3_follow_0 : decode cX3_follow 0 = .ok (.aload_n 0, 1) := by decide +kernel
theorem dX3_follow_1 : decode cX3_follow 1 = .ok (.aload_n 1, 1) := by decide +kernel
theorem dX3_follow_2 : decode cX3_follow 2 = .ok (.putfield 9, 3) := by decide +kernel
theorem dX3_follow_5 : decode cX3_follow 5 = .ok (.return_, 1) := by decide +kernel
theorem dX6_stateAt_0 : decode cX6_stateAt 0 = .ok (.aload_n 0, 1) := by decide +kernel
theorem dX6_stateAt_1 : decode cX6_stateAt 1 = .ok (.getfield 43, 3) := by decide +kernel
theorem dX6_stateAt_4 : decode cX6_stateAt 4 = .ok (.iload_n 1, 1) := by decide +kernel
theorem dX6_stateAt_5 : decode cX6_stateAt 5 = .ok (.aaload, 1) := by decide +kernel
theorem dX6_stateAt_6 : decode cX6_stateAt 6 = .ok (.astore_n 2, 1) := by decide +kernel
theorem dX6_stateAt_7 : decode cX6_stateAt 7 = .ok (.aload_n 2, 1) := by decide +kernel
theorem dX6_stateAt_8 : decode cX6_stateAt 8 = .ok (.ifnonnull 18, 3) := by decide +kernel
theorem dX6_stateAt_26 : decode cX6_stateAt 26 = .ok (.aload_n 2, 1) := by decide +kernel
theorem dX6_stateAt_27 : decode cX6_stateAt 27 = .ok (.areturn, 1) := by decide +kernel
theorem dX5_startAs_0 : decode cX5_startAs 0 = .ok (.aload_n 0, 1) := by decide +kernel
theorem dX5_startAs_1 : decode cX5_startAs 1 = .ok (.aload_n 1, 1) := by decide +kernel
theorem dX5_startAs_2 : decode cX5_startAs 2 = .ok (.getfield 37, 3) := by decide +kernel
theorem dX5_startAs_5 : decode cX5_startAs 5 = .ok (.putfield 42, 3) := by decide +kernel
theorem dX5_startAs_8 : decode cX5_startAs 8 = .ok (.iconst 0, 1) := by decide +kernel
theorem dX5_startAs_9 : decode cX5_startAs 9 = .ok (.istore_n 2, 1) := by decide +kernel
theorem dX5_startAs_10 : decode cX5_startAs 10 = .ok (.iload_n 2, 1) := by decide +kernel
theorem dX5_startAs_11 : decode cX5_startAs 11 = .ok (.aload_n 0, 1) := by decide +kernel
theorem dX5_startAs_12 : decode cX5_startAs 12 = .ok (.getfield 42, 3) := by decide +kernel
theorem dX5_startAs_15 : decode cX5_startAs 15 = .ok (.if_icmp .ge 21, 3) := by decide +kernel
theorem dX5_startAs_36 : decode cX5_startAs 36 = .ok (.iconst 0, 1) := by decide +kernel
theorem dX5_startAs_37 : decode cX5_startAs 37 = .ok (.istore_n 2, 1) := by decide +kernel
theorem dX5_startAs_38 : decode cX5_startAs 38 = .ok (.iload_n 2, 1) := by decide +kernel
theorem dX5_startAs_39 : decode cX5_startAs 39 = .ok (.bipush 8, 2) := by decide +kernel
theorem dX5_startAs_41 : decode cX5_startAs 41 = .ok (.if_icmp .ge 23, 3) := by decide +kernel
theorem dX5_startAs_44 : decode cX5_startAs 44 = .ok (.aload_n 0, 1) := by decide +kernel
theorem dX5_startAs_45 : decode cX5_startAs 45 = .ok (.getfield 15, 3) := by decide +kernel
theorem dX5_startAs_48 : decode cX5_startAs 48 = .ok (.iload_n 2, 1) := by decide +kernel
theorem dX5_startAs_49 : decode cX5_startAs 49 = .ok (.iconst 0, 1) := by decide +kernel
theorem dX5_startAs_50 : decode cX5_startAs 50 = .ok (.iastore, 1) := by decide +kernel
theorem dX5_startAs_51 : decode cX5_startAs 51 = .ok (.aload_n 0, 1) := by decide +kernel
theorem dX5_startAs_52 : decode cX5_startAs 52 = .ok (.getfield 18, 3) := by decide +kernel
theorem dX5_startAs_55 : decode cX5_startAs 55 = .ok (.iload_n 2, 1) := by decide +kernel
theorem dX5_startAs_56 : decode cX5_startAs 56 = .ok (.iconst 0, 1) := by decide +kernel
theorem dX5_startAs_57 : decode cX5_startAs 57 = .ok (.iastore, 1) := by decide +kernel
theorem dX5_startAs_58 : decode cX5_startAs 58 = .ok (.iinc 2 1, 3) := by decide +kernel
theorem dX5_startAs_61 : decode cX5_startAs 61 = .ok (.goto (-23), 3) := by decide +kernel
theorem dX5_startAs_64 : decode cX5_startAs 64 = .ok (.aload_n 0, 1) := by decide +kernel
theorem dX5_startAs_65 : decode cX5_startAs 65 = .ok (.iconst (-1), 1) := by decide +kernel
theorem dX5_startAs_66 : decode cX5_startAs 66 = .ok (.putfield 33, 3) := by decide +kernel
theorem dX5_startAs_69 : decode cX5_startAs 69 = .ok (.aload_n 0, 1) := by decide +kernel
theorem dX5_startAs_70 : decode cX5_startAs 70 = .ok (.iconst 0, 1) := by decide +kernel
theorem dX5_startAs_71 : decode cX5_startAs 71 = .ok (.putfield 48, 3) := by decide +kernel
theorem dX5_startAs_74 : decode cX5_startAs 74 = .ok (.aload_n 0, 1) := by decide +kernel
theorem dX5_startAs_75 : decode cX5_startAs 75 = .ok (.iconst 0, 1) := by decide +kernel
theorem dX5_startAs_76 : decode cX5_startAs 76 = .ok (.putfield 51, 3) := by decide +kernel
theorem dX5_startAs_79 : decode cX5_startAs 79 = .ok (.aload_n 0, 1) := by decide +kernel
theorem dX5_startAs_80 : decode cX5_startAs 80 = .ok (.aload_n 1, 1) := by decide +kernel
theorem dX5_startAs_81 : decode cX5_startAs 81 = .ok (.getfield 54, 3) := by decide +kernel
theorem dX5_startAs_84 : decode cX5_startAs 84 = .ok (.putfield 57, 3) := by decide +kernel
theorem dX5_startAs_87 : decode cX5_startAs 87 = .ok (.aload_n 0, 1) := by decide +kernel
theorem dX5_startAs_88 : decode cX5_startAs 88 = .ok (.iconst 0, 1) := by decide +kernel
theorem dX5_startAs_89 : decode cX5_startAs 89 = .ok (.putfield 60, 3) := by decide +kernel
theorem dX5_startAs_92 : decode cX5_startAs 92 = .ok (.return_, 1) := by decide +kernel
theorem dX4_forget_0 : decode cX4_forget 0 = .ok (.aload_n 0, 1) := by decide +kernel
theorem dX4_forget_1 : decode cX4_forget 1 = .ok (.iconst 0, 1) := by decide +kernel
theorem dX4_forget_2 : decode cX4_forget 2 = .ok (.putfield 25, 3) := by decide +kernel
theorem dX4_forget_5 : decode cX4_forget 5 = .ok (.return_, 1) := by decide +kernel
theorem dX6_begin_0 : decode cX6_begin 0 = .ok (.aload_n 0, 1) := by decide +kernel
theorem dX6_begin_1 : decode cX6_begin 1 = .ok (.getfield 37, 3) := by decide +kernel
theorem dX6_begin_4 : decode cX6_begin 4 = .ok (.aload_n 0, 1) := by decide +kernel
theorem dX6_begin_5 : decode cX6_begin 5 = .ok (.getfield 16, 3) := by decide +kernel
theorem dX6_begin_8 : decode cX6_begin 8 = .ok (.invokevirtual 97, 3) := by decide +kernel
theorem dX6_begin_11 : decode cX6_begin 11 = .ok (.aload_n 0, 1) := by decide +kernel
theorem dX6_begin_12 : decode cX6_begin 12 = .ok (.iconst 0, 1) := by decide +kernel
theorem dX6_begin_13 : decode cX6_begin 13 = .ok (.putfield 100, 3) := by decide +kernel
theorem dX6_begin_16 : decode cX6_begin 16 = .ok (.aload_n 0, 1) := by decide +kernel
theorem dX6_begin_17 : decode cX6_begin 17 = .ok (.iconst 0, 1) := by decide +kernel
theorem dX6_begin_18 : decode cX6_begin 18 = .ok (.putfield 103, 3) := by decide +kernel
theorem dX6_begin_21 : decode cX6_begin 21 = .ok (.aload_n 0, 1) := by decide +kernel
theorem dX6_begin_22 : decode cX6_begin 22 = .ok (.aload_n 0, 1) := by decide +kernel
theorem dX6_begin_23 : decode cX6_begin 23 = .ok (.iconst 0, 1) := by decide +kernel
theorem dX6_begin_24 : decode cX6_begin 24 = .ok (.invokevirtual 106, 3) := by decide +kernel
theorem dX6_begin_27 : decode cX6_begin 27 = .ok (.putfield 110, 3) := by decide +kernel
theorem dX6_begin_30 : decode cX6_begin 30 = .ok (.aload_n 0, 1) := by decide +kernel
theorem dX6_begin_31 : decode cX6_begin 31 = .ok (.getfield 110, 3) := by decide +kernel
theorem dX6_begin_34 : decode cX6_begin 34 = .ok (.aload_n 0, 1) := by decide +kernel
theorem dX6_begin_35 : decode cX6_begin 35 = .ok (.getfield 16, 3) := by decide +kernel
theorem dX6_begin_38 : decode cX6_begin 38 = .ok (.invokevirtual 113, 3) := by decide +kernel
theorem dX6_begin_41 : decode cX6_begin 41 = .ok (.iconst 0, 1) := by decide +kernel
theorem dX6_begin_42 : decode cX6_begin 42 = .ok (.istore_n 1, 1) := by decide +kernel
theorem dX6_begin_43 : decode cX6_begin 43 = .ok (.iload_n 1, 1) := by decide +kernel
theorem dX6_begin_44 : decode cX6_begin 44 = .ok (.iconst 3, 1) := by decide +kernel
theorem dX6_begin_45 : decode cX6_begin 45 = .ok (.if_icmp .ge 16, 3) := by decide +kernel
theorem dX6_begin_48 : decode cX6_begin 48 = .ok (.aload_n 0, 1) := by decide +kernel
theorem dX6_begin_49 : decode cX6_begin 49 = .ok (.getfield 55, 3) := by decide +kernel
theorem dX6_begin_52 : decode cX6_begin 52 = .ok (.iload_n 1, 1) := by decide +kernel
theorem dX6_begin_53 : decode cX6_begin 53 = .ok (.iconst 0, 1) := by decide +kernel
theorem dX6_begin_54 : decode cX6_begin 54 = .ok (.bastore, 1) := by decide +kernel
theorem dX6_begin_55 : decode cX6_begin 55 = .ok (.iinc 1 1, 3) := by decide +kernel
theorem dX6_begin_58 : decode cX6_begin 58 = .ok (.goto (-15), 3) := by decide +kernel
theorem dX6_begin_61 : decode cX6_begin 61 = .ok (.aload_n 0, 1) := by decide +kernel
theorem dX6_begin_62 : decode cX6_begin 62 = .ok (.iconst 0, 1) := by decide +kernel
theorem dX6_begin_63 : decode cX6_begin 63 = .ok (.putfield 116, 3) := by decide +kernel
theorem dX6_begin_66 : decode cX6_begin 66 = .ok (.aload_n 0, 1) := by decide +kernel
theorem dX6_begin_67 : decode cX6_begin 67 = .ok (.getfield 69, 3) := by decide +kernel
theorem dX6_begin_70 : decode cX6_begin 70 = .ok (.invokevirtual 119, 3) := by decide +kernel
theorem dX6_begin_73 : decode cX6_begin 73 = .ok (.return_, 1) := by decide +kernel
theorem dX6_scenarios_0 : decode cX6_scenarios 0 = .ok (.aload_n 0, 1) := by decide +kernel
theorem dX6_scenarios_1 : decode cX6_scenarios 1 = .ok (.getfield 16, 3) := by decide +kernel
theorem dX6_scenarios_4 : decode cX6_scenarios 4 = .ok (.getfield 94, 3) := by decide +kernel
theorem dX6_scenarios_7 : decode cX6_scenarios 7 = .ok (.iconst 2, 1) := by decide +kernel
theorem dX6_scenarios_8 : decode cX6_scenarios 8 = .ok (.if_icmp .ge 13, 3) := by decide +kernel
theorem dX6_scenarios_11 : decode cX6_scenarios 11 = .ok (.aload_n 0, 1) := by decide +kernel
theorem dX6_scenarios_12 : decode cX6_scenarios 12 = .ok (.getfield 16, 3) := by decide +kernel
theorem dX6_scenarios_15 : decode cX6_scenarios 15 = .ok (.getfield 94, 3) := by decide +kernel
theorem dX6_scenarios_18 : decode cX6_scenarios 18 = .ok (.goto 12, 3) := by decide +kernel
theorem dX6_scenarios_30 : decode cX6_scenarios 30 = .ok (.ireturn, 1) := by decide +kernel
theorem dX6_findAnswerTimes_0 : decode cX6_findAnswerTimes 0 = .ok (.iconst 0, 1) := by decide +kernel
theorem dX6_findAnswerTimes_1 : decode cX6_findAnswerTimes 1 = .ok (.istore_n 1, 1) := by decide +kernel
theorem dX6_findAnswerTimes_2 : decode cX6_findAnswerTimes 2 = .ok (.iload_n 1, 1) := by decide +kernel
theorem dX6_findAnswerTimes_3 : decode cX6_findAnswerTimes 3 = .ok (.aload_n 0, 1) := by decide +kernel
theorem dX6_findAnswerTimes_4 : decode cX6_findAnswerTimes 4 = .ok (.invokevirtual 122, 3) := by decide +kernel
theorem dX6_findAnswerTimes_7 : decode cX6_findAnswerTimes 7 = .ok (.if_icmp .ge 86, 3) := by decide +kernel
theorem dX6_findAnswerTimes_93 : decode cX6_findAnswerTimes 93 = .ok (.return_, 1) := by decide +kernel
theorem dX6_chain_0 : decode cX6_chain 0 = .ok (.aload_n 0, 1) := by decide +kernel
theorem dX6_chain_1 : decode cX6_chain 1 = .ok (.getfield 28, 3) := by decide +kernel
theorem dX6_chain_4 : decode cX6_chain 4 = .ok (.aload_n 0, 1) := by decide +kernel
theorem dX6_chain_5 : decode cX6_chain 5 = .ok (.getfield 79, 3) := by decide +kernel
theorem dX6_chain_8 : decode cX6_chain 8 = .ok (.aload_n 0, 1) := by decide +kernel
theorem dX6_chain_9 : decode cX6_chain 9 = .ok (.getfield 20, 3) := by decide +kernel
theorem dX6_chain_12 : decode cX6_chain 12 = .ok (.invokevirtual 87, 3) := by decide +kernel
theorem dX6_chain_15 : decode cX6_chain 15 = .ok (.ifCond .ne 5, 3) := by decide +kernel
theorem dX6_chain_20 : decode cX6_chain 20 = .ok (.aload_n 0, 1) := by decide +kernel
theorem dX6_chain_21 : decode cX6_chain 21 = .ok (.getfield 16, 3) := by decide +kernel
theorem dX6_chain_24 : decode cX6_chain 24 = .ok (.astore_n 1, 1) := by decide +kernel
theorem dX6_chain_25 : decode cX6_chain 25 = .ok (.aload_n 0, 1) := by decide +kernel
theorem dX6_chain_26 : decode cX6_chain 26 = .ok (.aload_n 0, 1) := by decide +kernel
theorem dX6_chain_27 : decode cX6_chain 27 = .ok (.getfield 20, 3) := by decide +kernel
theorem dX6_chain_30 : decode cX6_chain 30 = .ok (.putfield 16, 3) := by decide +kernel
theorem dX6_chain_33 : decode cX6_chain 33 = .ok (.aload_n 0, 1) := by decide +kernel
theorem dX6_chain_34 : decode cX6_chain 34 = .ok (.aload_n 1, 1) := by decide +kernel
theorem dX6_chain_35 : decode cX6_chain 35 = .ok (.putfield 20, 3) := by decide +kernel
theorem dX6_chain_38 : decode cX6_chain 38 = .ok (.aload_n 0, 1) := by decide +kernel
theorem dX6_chain_39 : decode cX6_chain 39 = .ok (.iconst 0, 1) := by decide +kernel
theorem dX6_chain_40 : decode cX6_chain 40 = .ok (.putfield 79, 3) := by decide +kernel
theorem dX6_chain_43 : decode cX6_chain 43 = .ok (.aload_n 0, 1) := by decide +kernel
theorem dX6_chain_44 : decode cX6_chain 44 = .ok (.invokevirtual 76, 3) := by decide +kernel
theorem dX6_chain_47 : decode cX6_chain 47 = .ok (.aload_n 0, 1) := by decide +kernel
theorem dX6_chain_48 : decode cX6_chain 48 = .ok (.invokevirtual 91, 3) := by decide +kernel
theorem dX6_chain_51 : decode cX6_chain 51 = .ok (.aload_n 0, 1) := by decide +kernel
theorem dX6_chain_52 : decode cX6_chain 52 = .ok (.getfield 16, 3) := by decide +kernel
theorem dX6_chain_55 : decode cX6_chain 55 = .ok (.getfield 94, 3) := by decide +kernel
theorem dX6_chain_58 : decode cX6_chain 58 = .ok (.ireturn, 1) := by decide +kernel
theorem dX6_fault_0 : decode cX6_fault 0 = .ok (.iload_n 1, 1) := by decide +kernel
theorem dX6_fault_1 : decode cX6_fault 1 = .ok (.lookupswitch 43 #[(0, 27), (1, 35)], 27) := by decide +kernel
theorem dX6_fault_28 : decode cX6_fault 28 = .ok (.aload_n 0, 1) := by decide +kernel
theorem dX6_fault_29 : decode cX6_fault 29 = .ok (.getfield 28, 3) := by decide +kernel
theorem dX6_fault_32 : decode cX6_fault 32 = .ok (.getfield 151, 3) := by decide +kernel
theorem dX6_fault_35 : decode cX6_fault 35 = .ok (.ireturn, 1) := by decide +kernel
theorem dX6_fault_36 : decode cX6_fault 36 = .ok (.aload_n 0, 1) := by decide +kernel
theorem dX6_fault_37 : decode cX6_fault 37 = .ok (.getfield 28, 3) := by decide +kernel
theorem dX6_fault_40 : decode cX6_fault 40 = .ok (.getfield 154, 3) := by decide +kernel
theorem dX6_fault_43 : decode cX6_fault 43 = .ok (.ireturn, 1) := by decide +kernel
theorem dX6_fault_44 : decode cX6_fault 44 = .ok (.iconst (-1), 1) := by decide +kernel
theorem dX6_fault_45 : decode cX6_fault 45 = .ok (.ireturn, 1) := by decide +kernel
theorem dX6_row_0 : decode cX6_row 0 = .ok (.iload_n 1, 1) := by decide +kernel
theorem dX6_row_1 : decode cX6_row 1 = .ok (.ifCond .lt 14, 3) := by decide +kernel
theorem dX6_row_15 : decode cX6_row 15 = .ok (.iconst (-1), 1) := by decide +kernel
theorem dX6_row_16 : decode cX6_row 16 = .ok (.goto 12, 3) := by decide +kernel
theorem dX6_row_28 : decode cX6_row 28 = .ok (.ireturn, 1) := by decide +kernel
theorem dX6_row_4 : decode cX6_row 4 = .ok (.iload_n 1, 1) := by decide +kernel
theorem dX6_row_5 : decode cX6_row 5 = .ok (.aload_n 0, 1) := by decide +kernel
theorem dX6_row_6 : decode cX6_row 6 = .ok (.getfield 110, 3) := by decide +kernel
theorem dX6_row_9 : decode cX6_row 9 = .ok (.getfield 157, 3) := by decide +kernel
theorem dX6_row_12 : decode cX6_row 12 = .ok (.if_icmp .lt 7, 3) := by decide +kernel
theorem dX6_isNode_0 : decode cX6_isNode 0 = .ok (.iload_n 1, 1) := by decide +kernel
theorem dX6_isNode_1 : decode cX6_isNode 1 = .ok (.ifCond .lt 18, 3) := by decide +kernel
theorem dX6_isNode_19 : decode cX6_isNode 19 = .ok (.iconst 0, 1) := by decide +kernel
theorem dX6_isNode_20 : decode cX6_isNode 20 = .ok (.ireturn, 1) := by decide +kernel
theorem dX6_isNode_4 : decode cX6_isNode 4 = .ok (.iload_n 1, 1) := by decide +kernel
theorem dX6_isNode_5 : decode cX6_isNode 5 = .ok (.aload_n 0, 1) := by decide +kernel
theorem dX6_isNode_6 : decode cX6_isNode 6 = .ok (.getfield 16, 3) := by decide +kernel
theorem dX6_isNode_9 : decode cX6_isNode 9 = .ok (.getfield 179, 3) := by decide +kernel
theorem dX6_isNode_12 : decode cX6_isNode 12 = .ok (.if_icmp .ge 7, 3) := by decide +kernel
theorem dX6_node_0 : decode cX6_node 0 = .ok (.aload_n 0, 1) := by decide +kernel
theorem dX6_node_1 : decode cX6_node 1 = .ok (.iload_n 1, 1) := by decide +kernel
theorem dX6_node_2 : decode cX6_node 2 = .ok (.invokevirtual 163, 3) := by decide +kernel
theorem dX6_node_5 : decode cX6_node 5 = .ok (.ifCond .ne 6, 3) := by decide +kernel
theorem dX6_node_8 : decode cX6_node 8 = .ok (.bipush (-2), 2) := by decide +kernel
theorem dX6_node_10 : decode cX6_node 10 = .ok (.ireturn, 1) := by decide +kernel
theorem dX6_isLink_0 : decode cX6_isLink 0 = .ok (.iload_n 1, 1) := by decide +kernel
theorem dX6_isLink_1 : decode cX6_isLink 1 = .ok (.ifCond .lt 29, 3) := by decide +kernel
theorem dX6_isLink_30 : decode cX6_isLink 30 = .ok (.iconst 0, 1) := by decide +kernel
theorem dX6_isLink_31 : decode cX6_isLink 31 = .ok (.ireturn, 1) := by decide +kernel
theorem dX6_isLink_4 : decode cX6_isLink 4 = .ok (.iload_n 1, 1) := by decide +kernel
theorem dX6_isLink_5 : decode cX6_isLink 5 = .ok (.aload_n 0, 1) := by decide +kernel
theorem dX6_isLink_6 : decode cX6_isLink 6 = .ok (.getfield 110, 3) := by decide +kernel
theorem dX6_isLink_9 : decode cX6_isLink 9 = .ok (.getfield 157, 3) := by decide +kernel
theorem dX6_isLink_12 : decode cX6_isLink 12 = .ok (.iconst 1, 1) := by decide +kernel
theorem dX6_isLink_13 : decode cX6_isLink 13 = .ok (.isub, 1) := by decide +kernel
theorem dX6_isLink_14 : decode cX6_isLink 14 = .ok (.if_icmp .ge 16, 3) := by decide +kernel
theorem dX6_under_0 : decode cX6_under 0 = .ok (.aload_n 0, 1) := by decide +kernel
theorem dX6_under_1 : decode cX6_under 1 = .ok (.iload_n 1, 1) := by decide +kernel
theorem dX6_under_2 : decode cX6_under 2 = .ok (.iload_n 2, 1) := by decide +kernel
theorem dX6_under_3 : decode cX6_under 3 = .ok (.invokevirtual 185, 3) := by decide +kernel
theorem dX6_under_6 : decode cX6_under 6 = .ok (.ifCond .eq 15, 3) := by decide +kernel
theorem dX6_under_21 : decode cX6_under 21 = .ok (.iconst (-1), 1) := by decide +kernel
theorem dX6_under_22 : decode cX6_under 22 = .ok (.ireturn, 1) := by decide +kernel
theorem dX6_due_0 : decode cX6_due 0 = .ok (.aload_n 0, 1) := by decide +kernel
theorem dX6_due_1 : decode cX6_due 1 = .ok (.iload_n 1, 1) := by decide +kernel
theorem dX6_due_2 : decode cX6_due 2 = .ok (.iload_n 2, 1) := by decide +kernel
theorem dX6_due_3 : decode cX6_due 3 = .ok (.invokevirtual 185, 3) := by decide +kernel
theorem dX6_due_6 : decode cX6_due 6 = .ok (.ifCond .eq 15, 3) := by decide +kernel
theorem dX6_due_21 : decode cX6_due 21 = .ok (.iconst (-1), 1) := by decide +kernel
theorem dX6_due_22 : decode cX6_due 22 = .ok (.ireturn, 1) := by decide +kernel
theorem dX5_headHas_0 : decode cX5_headHas 0 = .ok (.aload_n 0, 1) := by decide +kernel
theorem dX5_headHas_1 : decode cX5_headHas 1 = .ok (.getfield 42, 3) := by decide +kernel
theorem dX5_headHas_4 : decode cX5_headHas 4 = .ok (.ifCond .ne 7, 3) := by decide +kernel
theorem dX5_headHas_7 : decode cX5_headHas 7 = .ok (.iconst 0, 1) := by decide +kernel
theorem dX5_headHas_8 : decode cX5_headHas 8 = .ok (.goto 14, 3) := by decide +kernel
theorem dX5_headHas_22 : decode cX5_headHas 22 = .ok (.ireturn, 1) := by decide +kernel
theorem dX6_wrote_0 : decode cX6_wrote 0 = .ok (.iload_n 1, 1) := by decide +kernel
theorem dX6_wrote_1 : decode cX6_wrote 1 = .ok (.iconst 1, 1) := by decide +kernel
theorem dX6_wrote_2 : decode cX6_wrote 2 = .ok (.if_icmp .lt 14, 3) := by decide +kernel
theorem dX6_wrote_16 : decode cX6_wrote 16 = .ok (.iconst (-1), 1) := by decide +kernel
theorem dX6_wrote_17 : decode cX6_wrote 17 = .ok (.ireturn, 1) := by decide +kernel
theorem dX6_wrote_5 : decode cX6_wrote 5 = .ok (.iload_n 1, 1) := by decide +kernel
theorem dX6_wrote_6 : decode cX6_wrote 6 = .ok (.aload_n 0, 1) := by decide +kernel
theorem dX6_wrote_7 : decode cX6_wrote 7 = .ok (.getfield 110, 3) := by decide +kernel
theorem dX6_wrote_10 : decode cX6_wrote 10 = .ok (.invokevirtual 195, 3) := by decide +kernel
theorem dX6_wrote_13 : decode cX6_wrote 13 = .ok (.if_icmp .le 5, 3) := by decide +kernel
theorem dX6_canGive_0 : decode cX6_canGive 0 = .ok (.aload_n 0, 1) := by decide +kernel
theorem dX6_canGive_1 : decode cX6_canGive 1 = .ok (.getfield 110, 3) := by decide +kernel
theorem dX6_canGive_4 : decode cX6_canGive 4 = .ok (.getfield 157, 3) := by decide +kernel
theorem dX6_canGive_7 : decode cX6_canGive 7 = .ok (.ifCond .le 19, 3) := by decide +kernel
theorem dX6_canGive_26 : decode cX6_canGive 26 = .ok (.iconst 0, 1) := by decide +kernel
theorem dX6_canGive_27 : decode cX6_canGive 27 = .ok (.ireturn, 1) := by decide +kernel
theorem dX6_write_0 : decode cX6_write 0 = .ok (.aload_n 0, 1) := by decide +kernel
theorem dX6_write_1 : decode cX6_write 1 = .ok (.invokevirtual 211, 3) := by decide +kernel
theorem dX6_write_4 : decode cX6_write 4 = .ok (.ifCond .eq 21, 3) := by decide +kernel
theorem dX6_write_25 : decode cX6_write 25 = .ok (.iconst (-1), 1) := by decide +kernel
theorem dX6_write_26 : decode cX6_write 26 = .ok (.ireturn, 1) := by decide +kernel
theorem dX6_tick_0 : decode cX6_tick 0 = .ok (.aload_n 0, 1) := by decide +kernel
theorem dX6_tick_1 : decode cX6_tick 1 = .ok (.getfield 110, 3) := by decide +kernel
theorem dX6_tick_4 : decode cX6_tick 4 = .ok (.getfield 157, 3) := by decide +kernel
theorem dX6_tick_7 : decode cX6_tick 7 = .ok (.ifCond .eq 16, 3) := by decide +kernel
theorem dX6_tick_23 : decode cX6_tick 23 = .ok (.iconst (-1), 1) := by decide +kernel
theorem dX6_tick_24 : decode cX6_tick 24 = .ok (.ireturn, 1) := by decide +kernel
theorem dX6_isMember_0 : decode cX6_isMember 0 = .ok (.aload_n 0, 1) := by decide +kernel
theorem dX6_isMember_1 : decode cX6_isMember 1 = .ok (.iload_n 1, 1) := by decide +kernel
theorem dX6_isMember_2 : decode cX6_isMember 2 = .ok (.invokevirtual 163, 3) := by decide +kernel
theorem dX6_isMember_5 : decode cX6_isMember 5 = .ok (.ifCond .eq 18, 3) := by decide +kernel
theorem dX6_isMember_23 : decode cX6_isMember 23 = .ok (.iconst 0, 1) := by decide +kernel
theorem dX6_isMember_24 : decode cX6_isMember 24 = .ok (.ireturn, 1) := by decide +kernel
theorem dX6_lose_0 : decode cX6_lose 0 = .ok (.aload_n 0, 1) := by decide +kernel
theorem dX6_lose_1 : decode cX6_lose 1 = .ok (.iload_n 1, 1) := by decide +kernel
theorem dX6_lose_2 : decode cX6_lose 2 = .ok (.invokevirtual 239, 3) := by decide +kernel
theorem dX6_lose_5 : decode cX6_lose 5 = .ok (.ifCond .eq 14, 3) := by decide +kernel
theorem dX6_lose_19 : decode cX6_lose 19 = .ok (.iconst (-1), 1) := by decide +kernel
theorem dX6_lose_20 : decode cX6_lose 20 = .ok (.ireturn, 1) := by decide +kernel
theorem dX6_join_0 : decode cX6_join 0 = .ok (.aload_n 0, 1) := by decide +kernel
theorem dX6_join_1 : decode cX6_join 1 = .ok (.iload_n 1, 1) := by decide +kernel
theorem dX6_join_2 : decode cX6_join 2 = .ok (.invokevirtual 163, 3) := by decide +kernel
theorem dX6_join_5 : decode cX6_join 5 = .ok (.ifCond .eq 22, 3) := by decide +kernel
theorem dX6_join_27 : decode cX6_join 27 = .ok (.iconst (-1), 1) := by decide +kernel
theorem dX6_join_28 : decode cX6_join 28 = .ok (.ireturn, 1) := by decide +kernel
theorem dX6_undo_0 : decode cX6_undo 0 = .ok (.aload_n 0, 1) := by decide +kernel
theorem dX6_undo_1 : decode cX6_undo 1 = .ok (.getfield 100, 3) := by decide +kernel
theorem dX6_undo_4 : decode cX6_undo 4 = .ok (.ifCond .ne 5, 3) := by decide +kernel
theorem dX6_undo_7 : decode cX6_undo 7 = .ok (.iconst 0, 1) := by decide +kernel
theorem dX6_undo_8 : decode cX6_undo 8 = .ok (.ireturn, 1) := by decide +kernel
theorem dX6_redo_0 : decode cX6_redo 0 = .ok (.aload_n 0, 1) := by decide +kernel
theorem dX6_redo_1 : decode cX6_redo 1 = .ok (.getfield 100, 3) := by decide +kernel
theorem dX6_redo_4 : decode cX6_redo 4 = .ok (.aload_n 0, 1) := by decide +kernel
theorem dX6_redo_5 : decode cX6_redo 5 = .ok (.getfield 103, 3) := by decide +kernel
theorem dX6_redo_8 : decode cX6_redo 8 = .ok (.if_icmp .lt 5, 3) := by decide +kernel
theorem dX6_redo_11 : decode cX6_redo 11 = .ok (.iconst 0, 1) := by decide +kernel
theorem dX6_redo_12 : decode cX6_redo 12 = .ok (.ireturn, 1) := by decide +kernel
theorem dX6_read_0 : decode cX6_read 0 = .ok (.aload_n 0, 1) := by decide +kernel
theorem dX6_read_1 : decode cX6_read 1 = .ok (.iload_n 1, 1) := by decide +kernel
theorem dX6_read_2 : decode cX6_read 2 = .ok (.invokevirtual 239, 3) := by decide +kernel
theorem dX6_read_5 : decode cX6_read 5 = .ok (.ifCond .eq 11, 3) := by decide +kernel
theorem dX6_read_16 : decode cX6_read 16 = .ok (.bipush (-2), 2) := by decide +kernel
theorem dX6_read_18 : decode cX6_read 18 = .ok (.ireturn, 1) := by decide +kernel
theorem dX6_lazy_0 : decode cX6_lazy 0 = .ok (.aload_n 0, 1) := by decide +kernel
theorem dX6_lazy_1 : decode cX6_lazy 1 = .ok (.iload_n 1, 1) := by decide +kernel
theorem dX6_lazy_2 : decode cX6_lazy 2 = .ok (.invokevirtual 239, 3) := by decide +kernel
theorem dX6_lazy_5 : decode cX6_lazy 5 = .ok (.ifCond .eq 11, 3) := by decide +kernel
theorem dX6_lazy_16 : decode cX6_lazy 16 = .ok (.bipush (-2), 2) := by decide +kernel
theorem dX6_lazy_18 : decode cX6_lazy 18 = .ok (.ireturn, 1) := by decide +kernel
theorem dX6_isKey_0 : decode cX6_isKey 0 = .ok (.iload_n 1, 1) := by decide +kernel
theorem dX6_isKey_1 : decode cX6_isKey 1 = .ok (.ifCond .lt 18, 3) := by decide +kernel
theorem dX6_isKey_19 : decode cX6_isKey 19 = .ok (.iconst 0, 1) := by decide +kernel
theorem dX6_isKey_20 : decode cX6_isKey 20 = .ok (.ireturn, 1) := by decide +kernel
theorem dX6_isKey_4 : decode cX6_isKey 4 = .ok (.iload_n 1, 1) := by decide +kernel
theorem dX6_isKey_5 : decode cX6_isKey 5 = .ok (.aload_n 0, 1) := by decide +kernel
theorem dX6_isKey_6 : decode cX6_isKey 6 = .ok (.getfield 16, 3) := by decide +kernel
theorem dX6_isKey_9 : decode cX6_isKey 9 = .ok (.getfield 182, 3) := by decide +kernel
theorem dX6_isKey_12 : decode cX6_isKey 12 = .ok (.if_icmp .ge 7, 3) := by decide +kernel
theorem dX6_askers_0 : decode cX6_askers 0 = .ok (.aload_n 0, 1) := by decide +kernel
theorem dX6_askers_1 : decode cX6_askers 1 = .ok (.iload_n 1, 1) := by decide +kernel
theorem dX6_askers_2 : decode cX6_askers 2 = .ok (.invokevirtual 215, 3) := by decide +kernel
theorem dX6_askers_5 : decode cX6_askers 5 = .ok (.ifCond .ne 5, 3) := by decide +kernel
theorem dX6_askers_8 : decode cX6_askers 8 = .ok (.iconst (-1), 1) := by decide +kernel
theorem dX6_askers_9 : decode cX6_askers 9 = .ok (.ireturn, 1) := by decide +kernel
theorem dX6_stale_0 : decode cX6_stale 0 = .ok (.aload_n 0, 1) := by decide +kernel
theorem dX6_stale_1 : decode cX6_stale 1 = .ok (.iload_n 1, 1) := by decide +kernel
theorem dX6_stale_2 : decode cX6_stale 2 = .ok (.invokevirtual 215, 3) := by decide +kernel
theorem dX6_stale_5 : decode cX6_stale 5 = .ok (.ifCond .ne 5, 3) := by decide +kernel
theorem dX6_stale_8 : decode cX6_stale 8 = .ok (.iconst (-1), 1) := by decide +kernel
theorem dX6_stale_9 : decode cX6_stale 9 = .ok (.ireturn, 1) := by decide +kernel
theorem dX6_versions_0 : decode cX6_versions 0 = .ok (.aload_n 0, 1) := by decide +kernel
theorem dX6_versions_1 : decode cX6_versions 1 = .ok (.iload_n 1, 1) := by decide +kernel
theorem dX6_versions_2 : decode cX6_versions 2 = .ok (.invokevirtual 239, 3) := by decide +kernel
theorem dX6_versions_5 : decode cX6_versions 5 = .ok (.ifCond .eq 11, 3) := by decide +kernel
theorem dX6_versions_16 : decode cX6_versions 16 = .ok (.iconst (-1), 1) := by decide +kernel
theorem dX6_versions_17 : decode cX6_versions 17 = .ok (.ireturn, 1) := by decide +kernel
theorem dX6_version_0 : decode cX6_version 0 = .ok (.aload_n 0, 1) := by decide +kernel
theorem dX6_version_1 : decode cX6_version 1 = .ok (.iload_n 1, 1) := by decide +kernel
theorem dX6_version_2 : decode cX6_version 2 = .ok (.invokevirtual 239, 3) := by decide +kernel
theorem dX6_version_5 : decode cX6_version 5 = .ok (.ifCond .eq 15, 3) := by decide +kernel
theorem dX6_version_20 : decode cX6_version 20 = .ok (.iconst (-1), 1) := by decide +kernel
theorem dX6_version_21 : decode cX6_version 21 = .ok (.ireturn, 1) := by decide +kernel
theorem dX6_will_0 : decode cX6_will 0 = .ok (.iload_n 1, 1) := by decide +kernel
theorem dX6_will_1 : decode cX6_will 1 = .ok (.ifCond .lt 28, 3) := by decide +kernel
theorem dX6_will_29 : decode cX6_will 29 = .ok (.iconst (-1), 1) := by decide +kernel
theorem dX6_will_30 : decode cX6_will 30 = .ok (.ireturn, 1) := by decide +kernel
theorem dX6_will_4 : decode cX6_will 4 = .ok (.iload_n 1, 1) := by decide +kernel
theorem dX6_will_5 : decode cX6_will 5 = .ok (.bipush 60, 2) := by decide +kernel
theorem dX6_will_7 : decode cX6_will 7 = .ok (.if_icmp .gt 22, 3) := by decide +kernel
theorem dX6_will_10 : decode cX6_will 10 = .ok (.iload_n 2, 1) := by decide +kernel
theorem dX6_will_11 : decode cX6_will 11 = .ok (.ifCond .lt 18, 3) := by decide +kernel
theorem dX6_will_14 : decode cX6_will 14 = .ok (.iload_n 2, 1) := by decide +kernel
theorem dX6_will_15 : decode cX6_will 15 = .ok (.iconst 1, 1) := by decide +kernel
theorem dX6_will_16 : decode cX6_will 16 = .ok (.if_icmp .gt 13, 3) := by decide +kernel
theorem dX6_will_19 : decode cX6_will 19 = .ok (.aload_n 0, 1) := by decide +kernel
theorem dX6_will_20 : decode cX6_will 20 = .ok (.getfield 110, 3) := by decide +kernel
theorem dX6_will_23 : decode cX6_will 23 = .ok (.getfield 157, 3) := by decide +kernel
theorem dX6_will_26 : decode cX6_will 26 = .ok (.ifCond .ne 5, 3) := by decide +kernel
theorem dX6_when_0 : decode cX6_when 0 = .ok (.iload_n 1, 1) := by decide +kernel
theorem dX6_when_1 : decode cX6_when 1 = .ok (.iconst 1, 1) := by decide +kernel
theorem dX6_when_2 : decode cX6_when 2 = .ok (.if_icmp .lt 14, 3) := by decide +kernel
theorem dX6_when_16 : decode cX6_when 16 = .ok (.iconst (-1), 1) := by decide +kernel
theorem dX6_when_17 : decode cX6_when 17 = .ok (.ireturn, 1) := by decide +kernel
theorem dX6_when_5 : decode cX6_when 5 = .ok (.iload_n 1, 1) := by decide +kernel
theorem dX6_when_6 : decode cX6_when 6 = .ok (.aload_n 0, 1) := by decide +kernel
theorem dX6_when_7 : decode cX6_when 7 = .ok (.getfield 110, 3) := by decide +kernel
theorem dX6_when_10 : decode cX6_when 10 = .ok (.invokevirtual 195, 3) := by decide +kernel
theorem dX6_when_13 : decode cX6_when 13 = .ok (.if_icmp .le 5, 3) := by decide +kernel
theorem dX5_copyFrom_0 : decode cX5_copyFrom 0 = .ok (.aload_n 1, 1) := by decide +kernel
theorem dX5_copyFrom_1 : decode cX5_copyFrom 1 = .ok (.getfield 9, 3) := by decide +kernel
theorem dX5_copyFrom_4 : decode cX5_copyFrom 4 = .ok (.iconst 0, 1) := by decide +kernel
theorem dX5_copyFrom_5 : decode cX5_copyFrom 5 = .ok (.aload_n 0, 1) := by decide +kernel
theorem dX5_copyFrom_6 : decode cX5_copyFrom 6 = .ok (.getfield 9, 3) := by decide +kernel
theorem dX5_copyFrom_9 : decode cX5_copyFrom 9 = .ok (.iconst 0, 1) := by decide +kernel
theorem dX5_copyFrom_10 : decode cX5_copyFrom 10 = .ok (.aload_n 0, 1) := by decide +kernel
theorem dX5_copyFrom_11 : decode cX5_copyFrom 11 = .ok (.getfield 9, 3) := by decide +kernel
theorem dX5_copyFrom_14 : decode cX5_copyFrom 14 = .ok (.arraylength, 1) := by decide +kernel
theorem dX5_copyFrom_15 : decode cX5_copyFrom 15 = .ok (.invokestatic 63, 3) := by decide +kernel
theorem dX5_copyFrom_18 : decode cX5_copyFrom 18 = .ok (.aload_n 1, 1) := by decide +kernel
theorem dX5_copyFrom_19 : decode cX5_copyFrom 19 = .ok (.getfield 15, 3) := by decide +kernel
theorem dX5_copyFrom_22 : decode cX5_copyFrom 22 = .ok (.iconst 0, 1) := by decide +kernel
theorem dX5_copyFrom_23 : decode cX5_copyFrom 23 = .ok (.aload_n 0, 1) := by decide +kernel
theorem dX5_copyFrom_24 : decode cX5_copyFrom 24 = .ok (.getfield 15, 3) := by decide +kernel
theorem dX5_copyFrom_27 : decode cX5_copyFrom 27 = .ok (.iconst 0, 1) := by decide +kernel
theorem dX5_copyFrom_28 : decode cX5_copyFrom 28 = .ok (.aload_n 0, 1) := by decide +kernel
theorem dX5_copyFrom_29 : decode cX5_copyFrom 29 = .ok (.getfield 15, 3) := by decide +kernel
theorem dX5_copyFrom_32 : decode cX5_copyFrom 32 = .ok (.arraylength, 1) := by decide +kernel
theorem dX5_copyFrom_33 : decode cX5_copyFrom 33 = .ok (.invokestatic 63, 3) := by decide +kernel
theorem dX5_copyFrom_36 : decode cX5_copyFrom 36 = .ok (.aload_n 1, 1) := by decide +kernel
theorem dX5_copyFrom_37 : decode cX5_copyFrom 37 = .ok (.getfield 18, 3) := by decide +kernel
theorem dX5_copyFrom_40 : decode cX5_copyFrom 40 = .ok (.iconst 0, 1) := by decide +kernel
theorem dX5_copyFrom_41 : decode cX5_copyFrom 41 = .ok (.aload_n 0, 1) := by decide +kernel
theorem dX5_copyFrom_42 : decode cX5_copyFrom 42 = .ok (.getfield 18, 3) := by decide +kernel
theorem dX5_copyFrom_45 : decode cX5_copyFrom 45 = .ok (.iconst 0, 1) := by decide +kernel
theorem dX5_copyFrom_46 : decode cX5_copyFrom 46 = .ok (.aload_n 0, 1) := by decide +kernel
theorem dX5_copyFrom_47 : decode cX5_copyFrom 47 = .ok (.getfield 18, 3) := by decide +kernel
theorem dX5_copyFrom_50 : decode cX5_copyFrom 50 = .ok (.arraylength, 1) := by decide +kernel
theorem dX5_copyFrom_51 : decode cX5_copyFrom 51 = .ok (.invokestatic 63, 3) := by decide +kernel
theorem dX5_copyFrom_54 : decode cX5_copyFrom 54 = .ok (.aload_n 1, 1) := by decide +kernel
theorem dX5_copyFrom_55 : decode cX5_copyFrom 55 = .ok (.getfield 21, 3) := by decide +kernel
theorem dX5_copyFrom_58 : decode cX5_copyFrom 58 = .ok (.iconst 0, 1) := by decide +kernel
theorem dX5_copyFrom_59 : decode cX5_copyFrom 59 = .ok (.aload_n 0, 1) := by decide +kernel
theorem dX5_copyFrom_60 : decode cX5_copyFrom 60 = .ok (.getfield 21, 3) := by decide +kernel
theorem dX5_copyFrom_63 : decode cX5_copyFrom 63 = .ok (.iconst 0, 1) := by decide +kernel
theorem dX5_copyFrom_64 : decode cX5_copyFrom 64 = .ok (.aload_n 0, 1) := by decide +kernel
theorem dX5_copyFrom_65 : decode cX5_copyFrom 65 = .ok (.getfield 21, 3) := by decide +kernel
theorem dX5_copyFrom_68 : decode cX5_copyFrom 68 = .ok (.arraylength, 1) := by decide +kernel
theorem dX5_copyFrom_69 : decode cX5_copyFrom 69 = .ok (.invokestatic 63, 3) := by decide +kernel
theorem dX5_copyFrom_72 : decode cX5_copyFrom 72 = .ok (.aload_n 1, 1) := by decide +kernel
theorem dX5_copyFrom_73 : decode cX5_copyFrom 73 = .ok (.getfield 24, 3) := by decide +kernel
theorem dX5_copyFrom_76 : decode cX5_copyFrom 76 = .ok (.iconst 0, 1) := by decide +kernel
theorem dX5_copyFrom_77 : decode cX5_copyFrom 77 = .ok (.aload_n 0, 1) := by decide +kernel
theorem dX5_copyFrom_78 : decode cX5_copyFrom 78 = .ok (.getfield 24, 3) := by decide +kernel
theorem dX5_copyFrom_81 : decode cX5_copyFrom 81 = .ok (.iconst 0, 1) := by decide +kernel
theorem dX5_copyFrom_82 : decode cX5_copyFrom 82 = .ok (.aload_n 0, 1) := by decide +kernel
theorem dX5_copyFrom_83 : decode cX5_copyFrom 83 = .ok (.getfield 24, 3) := by decide +kernel
theorem dX5_copyFrom_86 : decode cX5_copyFrom 86 = .ok (.arraylength, 1) := by decide +kernel
theorem dX5_copyFrom_87 : decode cX5_copyFrom 87 = .ok (.invokestatic 63, 3) := by decide +kernel
theorem dX5_copyFrom_90 : decode cX5_copyFrom 90 = .ok (.aload_n 1, 1) := by decide +kernel
theorem dX5_copyFrom_91 : decode cX5_copyFrom 91 = .ok (.getfield 27, 3) := by decide +kernel
theorem dX5_copyFrom_94 : decode cX5_copyFrom 94 = .ok (.iconst 0, 1) := by decide +kernel
theorem dX5_copyFrom_95 : decode cX5_copyFrom 95 = .ok (.aload_n 0, 1) := by decide +kernel
theorem dX5_copyFrom_96 : decode cX5_copyFrom 96 = .ok (.getfield 27, 3) := by decide +kernel
theorem dX5_copyFrom_99 : decode cX5_copyFrom 99 = .ok (.iconst 0, 1) := by decide +kernel
theorem dX5_copyFrom_100 : decode cX5_copyFrom 100 = .ok (.aload_n 0, 1) := by decide +kernel
theorem dX5_copyFrom_101 : decode cX5_copyFrom 101 = .ok (.getfield 27, 3) := by decide +kernel
theorem dX5_copyFrom_104 : decode cX5_copyFrom 104 = .ok (.arraylength, 1) := by decide +kernel
theorem dX5_copyFrom_105 : decode cX5_copyFrom 105 = .ok (.invokestatic 63, 3) := by decide +kernel
theorem dX5_copyFrom_108 : decode cX5_copyFrom 108 = .ok (.aload_n 1, 1) := by decide +kernel
theorem dX5_copyFrom_109 : decode cX5_copyFrom 109 = .ok (.getfield 30, 3) := by decide +kernel
theorem dX5_copyFrom_112 : decode cX5_copyFrom 112 = .ok (.iconst 0, 1) := by decide +kernel
theorem dX5_copyFrom_113 : decode cX5_copyFrom 113 = .ok (.aload_n 0, 1) := by decide +kernel
theorem dX5_copyFrom_114 : decode cX5_copyFrom 114 = .ok (.getfield 30, 3) := by decide +kernel
theorem dX5_copyFrom_117 : decode cX5_copyFrom 117 = .ok (.iconst 0, 1) := by decide +kernel
theorem dX5_copyFrom_118 : decode cX5_copyFrom 118 = .ok (.aload_n 0, 1) := by decide +kernel
theorem dX5_copyFrom_119 : decode cX5_copyFrom 119 = .ok (.getfield 30, 3) := by decide +kernel
theorem dX5_copyFrom_122 : decode cX5_copyFrom 122 = .ok (.arraylength, 1) := by decide +kernel
theorem dX5_copyFrom_123 : decode cX5_copyFrom 123 = .ok (.invokestatic 63, 3) := by decide +kernel
theorem dX5_copyFrom_126 : decode cX5_copyFrom 126 = .ok (.aload_n 0, 1) := by decide +kernel
theorem dX5_copyFrom_127 : decode cX5_copyFrom 127 = .ok (.aload_n 1, 1) := by decide +kernel
theorem dX5_copyFrom_128 : decode cX5_copyFrom 128 = .ok (.getfield 42, 3) := by decide +kernel
theorem dX5_copyFrom_131 : decode cX5_copyFrom 131 = .ok (.putfield 42, 3) := by decide +kernel
theorem dX5_copyFrom_134 : decode cX5_copyFrom 134 = .ok (.aload_n 0, 1) := by decide +kernel
theorem dX5_copyFrom_135 : decode cX5_copyFrom 135 = .ok (.aload_n 1, 1) := by decide +kernel
theorem dX5_copyFrom_136 : decode cX5_copyFrom 136 = .ok (.getfield 33, 3) := by decide +kernel
theorem dX5_copyFrom_139 : decode cX5_copyFrom 139 = .ok (.putfield 33, 3) := by decide +kernel
theorem dX5_copyFrom_142 : decode cX5_copyFrom 142 = .ok (.aload_n 0, 1) := by decide +kernel
theorem dX5_copyFrom_143 : decode cX5_copyFrom 143 = .ok (.aload_n 1, 1) := by decide +kernel
theorem dX5_copyFrom_144 : decode cX5_copyFrom 144 = .ok (.getfield 48, 3) := by decide +kernel
theorem dX5_copyFrom_147 : decode cX5_copyFrom 147 = .ok (.putfield 48, 3) := by decide +kernel
theorem dX5_copyFrom_150 : decode cX5_copyFrom 150 = .ok (.aload_n 0, 1) := by decide +kernel
theorem dX5_copyFrom_151 : decode cX5_copyFrom 151 = .ok (.aload_n 1, 1) := by decide +kernel
theorem dX5_copyFrom_152 : decode cX5_copyFrom 152 = .ok (.getfield 51, 3) := by decide +kernel
theorem dX5_copyFrom_155 : decode cX5_copyFrom 155 = .ok (.putfield 51, 3) := by decide +kernel
theorem dX5_copyFrom_158 : decode cX5_copyFrom 158 = .ok (.aload_n 0, 1) := by decide +kernel
theorem dX5_copyFrom_159 : decode cX5_copyFrom 159 = .ok (.aload_n 1, 1) := by decide +kernel
theorem dX5_copyFrom_160 : decode cX5_copyFrom 160 = .ok (.getfield 57, 3) := by decide +kernel
theorem dX5_copyFrom_163 : decode cX5_copyFrom 163 = .ok (.putfield 57, 3) := by decide +kernel
theorem dX5_copyFrom_166 : decode cX5_copyFrom 166 = .ok (.aload_n 0, 1) := by decide +kernel
theorem dX5_copyFrom_167 : decode cX5_copyFrom 167 = .ok (.aload_n 1, 1) := by decide +kernel
theorem dX5_copyFrom_168 : decode cX5_copyFrom 168 = .ok (.getfield 60, 3) := by decide +kernel
theorem dX5_copyFrom_171 : decode cX5_copyFrom 171 = .ok (.putfield 60, 3) := by decide +kernel
theorem dX5_copyFrom_174 : decode cX5_copyFrom 174 = .ok (.return_, 1) := by decide +kernel
theorem dX5_allUnderWay_0 : decode cX5_allUnderWay 0 = .ok (.iconst 0, 1) := by decide +kernel
theorem dX5_allUnderWay_1 : decode cX5_allUnderWay 1 = .ok (.istore_n 1, 1) := by decide +kernel
theorem dX5_allUnderWay_2 : decode cX5_allUnderWay 2 = .ok (.iconst 0, 1) := by decide +kernel
theorem dX5_allUnderWay_3 : decode cX5_allUnderWay 3 = .ok (.istore_n 2, 1) := by decide +kernel
theorem dX5_allUnderWay_4 : decode cX5_allUnderWay 4 = .ok (.iload_n 2, 1) := by decide +kernel
theorem dX5_allUnderWay_5 : decode cX5_allUnderWay 5 = .ok (.aload_n 0, 1) := by decide +kernel
theorem dX5_allUnderWay_6 : decode cX5_allUnderWay 6 = .ok (.getfield 42, 3) := by decide +kernel
theorem dX5_allUnderWay_9 : decode cX5_allUnderWay 9 = .ok (.iconst 1, 1) := by decide +kernel
theorem dX5_allUnderWay_10 : decode cX5_allUnderWay 10 = .ok (.isub, 1) := by decide +kernel
theorem dX5_allUnderWay_11 : decode cX5_allUnderWay 11 = .ok (.if_icmp .ge 25, 3) := by decide +kernel
theorem dX5_allUnderWay_36 : decode cX5_allUnderWay 36 = .ok (.iload_n 1, 1) := by decide +kernel
theorem dX5_allUnderWay_37 : decode cX5_allUnderWay 37 = .ok (.ireturn, 1) := by decide +kernel
theorem dX6_still_0 : decode cX6_still 0 = .ok (.aload_n 0, 1) := by decide +kernel
theorem dX6_still_1 : decode cX6_still 1 = .ok (.getfield 48, 3) := by decide +kernel
theorem dX6_still_4 : decode cX6_still 4 = .ok (.aload_n 0, 1) := by decide +kernel
theorem dX6_still_5 : decode cX6_still 5 = .ok (.getfield 110, 3) := by decide +kernel
theorem dX6_still_8 : decode cX6_still 8 = .ok (.invokevirtual 228, 3) := by decide +kernel
theorem dX6_still_11 : decode cX6_still 11 = .ok (.iconst 0, 1) := by decide +kernel
theorem dX6_still_12 : decode cX6_still 12 = .ok (.istore_n 1, 1) := by decide +kernel
theorem dX6_still_13 : decode cX6_still 13 = .ok (.iload_n 1, 1) := by decide +kernel
theorem dX6_still_14 : decode cX6_still 14 = .ok (.sipush 400, 3) := by decide +kernel
theorem dX6_still_17 : decode cX6_still 17 = .ok (.if_icmp .gt 44, 3) := by decide +kernel
theorem dX6_still_20 : decode cX6_still 20 = .ok (.aload_n 0, 1) := by decide +kernel
theorem dX6_still_21 : decode cX6_still 21 = .ok (.getfield 48, 3) := by decide +kernel
theorem dX6_still_24 : decode cX6_still 24 = .ok (.getfield 176, 3) := by decide +kernel
theorem dX6_still_27 : decode cX6_still 27 = .ok (.iconst (-1), 1) := by decide +kernel
theorem dX6_still_28 : decode cX6_still 28 = .ok (.if_icmp .ne 15, 3) := by decide +kernel
theorem dX6_still_31 : decode cX6_still 31 = .ok (.aload_n 0, 1) := by decide +kernel
theorem dX6_still_32 : decode cX6_still 32 = .ok (.getfield 48, 3) := by decide +kernel
theorem dX6_still_35 : decode cX6_still 35 = .ok (.invokevirtual 267, 3) := by decide +kernel
theorem dX6_still_38 : decode cX6_still 38 = .ok (.ifCond .ne 5, 3) := by decide +kernel
theorem dX6_still_41 : decode cX6_still 41 = .ok (.iload_n 1, 1) := by decide +kernel
theorem dX6_still_42 : decode cX6_still 42 = .ok (.ireturn, 1) := by decide +kernel
theorem dX5_memberBits_0 : decode cX5_memberBits 0 = .ok (.iconst 0, 1) := by decide +kernel
theorem dX5_memberBits_1 : decode cX5_memberBits 1 = .ok (.istore_n 1, 1) := by decide +kernel
theorem dX5_memberBits_2 : decode cX5_memberBits 2 = .ok (.iconst 0, 1) := by decide +kernel
theorem dX5_memberBits_3 : decode cX5_memberBits 3 = .ok (.istore_n 2, 1) := by decide +kernel
theorem dX5_memberBits_4 : decode cX5_memberBits 4 = .ok (.iload_n 2, 1) := by decide +kernel
theorem dX5_memberBits_5 : decode cX5_memberBits 5 = .ok (.aload_n 0, 1) := by decide +kernel
theorem dX5_memberBits_6 : decode cX5_memberBits 6 = .ok (.getfield 42, 3) := by decide +kernel
theorem dX5_memberBits_9 : decode cX5_memberBits 9 = .ok (.if_icmp .ge 20, 3) := by decide +kernel
theorem dX5_memberBits_29 : decode cX5_memberBits 29 = .ok (.iload_n 1, 1) := by decide +kernel
theorem dX5_memberBits_30 : decode cX5_memberBits 30 = .ok (.ireturn, 1) := by decide +kernel
theorem dX6_drops_0 : decode cX6_drops 0 = .ok (.aload_n 0, 1) := by decide +kernel
theorem dX6_drops_1 : decode cX6_drops 1 = .ok (.getfield 110, 3) := by decide +kernel
theorem dX6_drops_4 : decode cX6_drops 4 = .ok (.invokevirtual 270, 3) := by decide +kernel
theorem dX6_drops_7 : decode cX6_drops 7 = .ok (.istore_n 2, 1) := by decide +kernel
theorem dX6_drops_8 : decode cX6_drops 8 = .ok (.iload_n 1, 1) := by decide +kernel
theorem dX6_drops_9 : decode cX6_drops 9 = .ok (.iload_n 2, 1) := by decide +kernel
theorem dX6_drops_10 : decode cX6_drops 10 = .ok (.iconst (-1), 1) := by decide +kernel
theorem dX6_drops_11 : decode cX6_drops 11 = .ok (.ixor, 1) := by decide +kernel
theorem dX6_drops_12 : decode cX6_drops 12 = .ok (.iand, 1) := by decide +kernel
theorem dX6_drops_13 : decode cX6_drops 13 = .ok (.ifCond .ne 8, 3) := by decide +kernel
theorem dX6_drops_21 : decode cX6_drops 21 = .ok (.iconst (-1), 1) := by decide +kernel
theorem dX6_drops_22 : decode cX6_drops 22 = .ok (.ireturn, 1) := by decide +kernel
theorem dX6_drops_16 : decode cX6_drops 16 = .ok (.iload_n 1, 1) := by decide +kernel
theorem dX6_drops_17 : decode cX6_drops 17 = .ok (.iload_n 2, 1) := by decide +kernel
theorem dX6_drops_18 : decode cX6_drops 18 = .ok (.if_icmp .ne 5, 3) := by decide +kernel
theorem dX6_worst_0 : decode cX6_worst 0 = .ok (.iload_n 1, 1) := by decide +kernel
theorem dX6_worst_1 : decode cX6_worst 1 = .ok (.iconst 1, 1) := by decide +kernel
theorem dX6_worst_2 : decode cX6_worst 2 = .ok (.if_icmp .lt 28, 3) := by decide +kernel
theorem dX6_worst_30 : decode cX6_worst 30 = .ok (.iconst (-1), 1) := by decide +kernel
theorem dX6_worst_31 : decode cX6_worst 31 = .ok (.ireturn, 1) := by decide +kernel
theorem dX6_worst_5 : decode cX6_worst 5 = .ok (.iload_n 1, 1) := by decide +kernel
theorem dX6_worst_6 : decode cX6_worst 6 = .ok (.iconst 5, 1) := by decide +kernel
theorem dX6_worst_7 : decode cX6_worst 7 = .ok (.if_icmp .gt 23, 3) := by decide +kernel
theorem dX6_worst_10 : decode cX6_worst 10 = .ok (.iload_n 1, 1) := by decide +kernel
theorem dX6_worst_11 : decode cX6_worst 11 = .ok (.aload_n 0, 1) := by decide +kernel
theorem dX6_worst_12 : decode cX6_worst 12 = .ok (.getfield 110, 3) := by decide +kernel
theorem dX6_worst_15 : decode cX6_worst 15 = .ok (.getfield 157, 3) := by decide +kernel
theorem dX6_worst_18 : decode cX6_worst 18 = .ok (.if_icmp .ge 12, 3) := by decide +kernel
theorem dX6_safe_0 : decode cX6_safe 0 = .ok (.iconst (-1), 1) := by decide +kernel
theorem dX6_safe_1 : decode cX6_safe 1 = .ok (.istore_n 1, 1) := by decide +kernel
theorem dX6_safe_2 : decode cX6_safe 2 = .ok (.iconst 0, 1) := by decide +kernel
theorem dX6_safe_3 : decode cX6_safe 3 = .ok (.istore_n 2, 1) := by decide +kernel
theorem dX6_safe_4 : decode cX6_safe 4 = .ok (.iload_n 2, 1) := by decide +kernel
theorem dX6_safe_5 : decode cX6_safe 5 = .ok (.aload_n 0, 1) := by decide +kernel
theorem dX6_safe_6 : decode cX6_safe 6 = .ok (.getfield 110, 3) := by decide +kernel
theorem dX6_safe_9 : decode cX6_safe 9 = .ok (.getfield 157, 3) := by decide +kernel
theorem dX6_safe_12 : decode cX6_safe 12 = .ok (.if_icmp .ge 38, 3) := by decide +kernel
theorem dX6_safe_50 : decode cX6_safe 50 = .ok (.iload_n 1, 1) := by decide +kernel
theorem dX6_safe_51 : decode cX6_safe 51 = .ok (.ireturn, 1) := by decide +kernel
theorem dX6_answered_0 : decode cX6_answered 0 = .ok (.aload_n 0, 1) := by decide +kernel
theorem dX6_answered_1 : decode cX6_answered 1 = .ok (.getfield 110, 3) := by decide +kernel
theorem dX6_answered_4 : decode cX6_answered 4 = .ok (.getfield 157, 3) := by decide +kernel
theorem dX6_answered_7 : decode cX6_answered 7 = .ok (.ifCond .ne 7, 3) := by decide +kernel
theorem dX6_answered_10 : decode cX6_answered 10 = .ok (.iconst (-1), 1) := by decide +kernel
theorem dX6_answered_11 : decode cX6_answered 11 = .ok (.goto 10, 3) := by decide +kernel
theorem dX6_answered_21 : decode cX6_answered 21 = .ok (.ireturn, 1) := by decide +kernel
theorem dX6_soonest_0 : decode cX6_soonest 0 = .ok (.aload_n 0, 1) := by decide +kernel
theorem dX6_soonest_1 : decode cX6_soonest 1 = .ok (.iconst 0, 1) := by decide +kernel
theorem dX6_soonest_2 : decode cX6_soonest 2 = .ok (.putfield 116, 3) := by decide +kernel
theorem dX6_soonest_5 : decode cX6_soonest 5 = .ok (.aload_n 0, 1) := by decide +kernel
theorem dX6_soonest_6 : decode cX6_soonest 6 = .ok (.getfield 110, 3) := by decide +kernel
theorem dX6_soonest_9 : decode cX6_soonest 9 = .ok (.getfield 157, 3) := by decide +kernel
theorem dX6_soonest_12 : decode cX6_soonest 12 = .ok (.ifCond .ne 5, 3) := by decide +kernel
theorem dX6_soonest_15 : decode cX6_soonest 15 = .ok (.iconst (-1), 1) := by decide +kernel
theorem dX6_soonest_16 : decode cX6_soonest 16 = .ok (.ireturn, 1) := by decide +kernel
theorem dX6_weed_0 : decode cX6_weed 0 = .ok (.iload_n 1, 1) := by decide +kernel
theorem dX6_weed_1 : decode cX6_weed 1 = .ok (.ifCond .lt 19, 3) := by decide +kernel
theorem dX6_weed_20 : decode cX6_weed 20 = .ok (.iconst (-1), 1) := by decide +kernel
theorem dX6_weed_21 : decode cX6_weed 21 = .ok (.ireturn, 1) := by decide +kernel
theorem dX6_weed_4 : decode cX6_weed 4 = .ok (.iload_n 1, 1) := by decide +kernel
theorem dX6_weed_5 : decode cX6_weed 5 = .ok (.iconst 1, 1) := by decide +kernel
theorem dX6_weed_6 : decode cX6_weed 6 = .ok (.if_icmp .gt 14, 3) := by decide +kernel
theorem dX6_weed_9 : decode cX6_weed 9 = .ok (.aload_n 0, 1) := by decide +kernel
theorem dX6_weed_10 : decode cX6_weed 10 = .ok (.getfield 110, 3) := by decide +kernel
theorem dX6_weed_13 : decode cX6_weed 13 = .ok (.getfield 157, 3) := by decide +kernel
theorem dX6_weed_16 : decode cX6_weed 16 = .ok (.iconst 2, 1) := by decide +kernel
theorem dX6_weed_17 : decode cX6_weed 17 = .ok (.if_icmp .ge 5, 3) := by decide +kernel
theorem dX6_fullest_0 : decode cX6_fullest 0 = .ok (.iconst (-1), 1) := by decide +kernel
theorem dX6_fullest_1 : decode cX6_fullest 1 = .ok (.istore_n 1, 1) := by decide +kernel
theorem dX6_fullest_2 : decode cX6_fullest 2 = .ok (.iconst (-1), 1) := by decide +kernel
theorem dX6_fullest_3 : decode cX6_fullest 3 = .ok (.istore_n 2, 1) := by decide +kernel
theorem dX6_fullest_4 : decode cX6_fullest 4 = .ok (.iconst 0, 1) := by decide +kernel
theorem dX6_fullest_5 : decode cX6_fullest 5 = .ok (.istore_n 3, 1) := by decide +kernel
theorem dX6_fullest_6 : decode cX6_fullest 6 = .ok (.iload_n 3, 1) := by decide +kernel
theorem dX6_fullest_7 : decode cX6_fullest 7 = .ok (.aload_n 0, 1) := by decide +kernel
theorem dX6_fullest_8 : decode cX6_fullest 8 = .ok (.getfield 110, 3) := by decide +kernel
theorem dX6_fullest_11 : decode cX6_fullest 11 = .ok (.getfield 157, 3) := by decide +kernel
theorem dX6_fullest_14 : decode cX6_fullest 14 = .ok (.iconst 1, 1) := by decide +kernel
theorem dX6_fullest_15 : decode cX6_fullest 15 = .ok (.isub, 1) := by decide +kernel
theorem dX6_fullest_16 : decode cX6_fullest 16 = .ok (.if_icmp .ge 41, 3) := by decide +kernel
theorem dX6_fullest_57 : decode cX6_fullest 57 = .ok (.iload_n 1, 1) := by decide +kernel
theorem dX6_fullest_58 : decode cX6_fullest 58 = .ok (.ireturn, 1) := by decide +kernel
theorem dX6_trip_0 : decode cX6_trip 0 = .ok (.aload_n 0, 1) := by decide +kernel
theorem dX6_trip_1 : decode cX6_trip 1 = .ok (.invokevirtual 211, 3) := by decide +kernel
theorem dX6_trip_4 : decode cX6_trip 4 = .ok (.ifCond .ne 5, 3) := by decide +kernel
theorem dX6_trip_7 : decode cX6_trip 7 = .ok (.iconst (-1), 1) := by decide +kernel
theorem dX6_trip_8 : decode cX6_trip 8 = .ok (.ireturn, 1) := by decide +kernel
theorem dX6_without_0 : decode cX6_without 0 = .ok (.aload_n 0, 1) := by decide +kernel
theorem dX6_without_1 : decode cX6_without 1 = .ok (.invokevirtual 211, 3) := by decide +kernel
theorem dX6_without_4 : decode cX6_without 4 = .ok (.ifCond .eq 22, 3) := by decide +kernel
theorem dX6_without_26 : decode cX6_without 26 = .ok (.iconst (-1), 1) := by decide +kernel
theorem dX6_without_27 : decode cX6_without 27 = .ok (.ireturn, 1) := by decide +kernel
theorem dX6_latest_0 : decode cX6_latest 0 = .ok (.aload_n 0, 1) := by decide +kernel
theorem dX6_latest_1 : decode cX6_latest 1 = .ok (.iload_n 1, 1) := by decide +kernel
theorem dX6_latest_2 : decode cX6_latest 2 = .ok (.invokevirtual 215, 3) := by decide +kernel
theorem dX6_latest_5 : decode cX6_latest 5 = .ok (.ifCond .eq 13, 3) := by decide +kernel
theorem dX6_latest_18 : decode cX6_latest 18 = .ok (.iconst (-1), 1) := by decide +kernel
theorem dX6_latest_19 : decode cX6_latest 19 = .ok (.goto 18, 3) := by decide +kernel
theorem dX6_latest_37 : decode cX6_latest 37 = .ok (.ireturn, 1) := by decide +kernel
theorem dX6_traffic_0 : decode cX6_traffic 0 = .ok (.aload_n 0, 1) := by decide +kernel
theorem dX6_traffic_1 : decode cX6_traffic 1 = .ok (.getfield 110, 3) := by decide +kernel
theorem dX6_traffic_4 : decode cX6_traffic 4 = .ok (.invokevirtual 267, 3) := by decide +kernel
theorem dX6_traffic_7 : decode cX6_traffic 7 = .ok (.ireturn, 1) := by decide +kernel
theorem dX6_lag_0 : decode cX6_lag 0 = .ok (.aload_n 0, 1) := by decide +kernel
theorem dX6_lag_1 : decode cX6_lag 1 = .ok (.iload_n 1, 1) := by decide +kernel
theorem dX6_lag_2 : decode cX6_lag 2 = .ok (.invokevirtual 239, 3) := by decide +kernel
theorem dX6_lag_5 : decode cX6_lag 5 = .ok (.ifCond .eq 23, 3) := by decide +kernel
theorem dX6_lag_28 : decode cX6_lag 28 = .ok (.iconst (-1), 1) := by decide +kernel
theorem dX6_lag_29 : decode cX6_lag 29 = .ok (.ireturn, 1) := by decide +kernel
theorem dX6_peak_0 : decode cX6_peak 0 = .ok (.iload_n 1, 1) := by decide +kernel
theorem dX6_peak_1 : decode cX6_peak 1 = .ok (.ifCond .lt 18, 3) := by decide +kernel
theorem dX6_peak_19 : decode cX6_peak 19 = .ok (.iconst (-1), 1) := by decide +kernel
theorem dX6_peak_20 : decode cX6_peak 20 = .ok (.ireturn, 1) := by decide +kernel
theorem dX6_peak_4 : decode cX6_peak 4 = .ok (.iload_n 1, 1) := by decide +kernel
theorem dX6_peak_5 : decode cX6_peak 5 = .ok (.iconst 1, 1) := by decide +kernel
theorem dX6_peak_6 : decode cX6_peak 6 = .ok (.if_icmp .gt 13, 3) := by decide +kernel
theorem dX6_peak_9 : decode cX6_peak 9 = .ok (.aload_n 0, 1) := by decide +kernel
theorem dX6_peak_10 : decode cX6_peak 10 = .ok (.getfield 110, 3) := by decide +kernel
theorem dX6_peak_13 : decode cX6_peak 13 = .ok (.getfield 157, 3) := by decide +kernel
theorem dX6_peak_16 : decode cX6_peak 16 = .ok (.ifCond .ne 5, 3) := by decide +kernel
theorem dX6_dirtiest_0 : decode cX6_dirtiest 0 = .ok (.iconst 0, 1) := by decide +kernel
theorem dX6_dirtiest_1 : decode cX6_dirtiest 1 = .ok (.istore_n 2, 1) := by decide +kernel
theorem dX6_dirtiest_2 : decode cX6_dirtiest 2 = .ok (.iconst (-1), 1) := by decide +kernel
theorem dX6_dirtiest_3 : decode cX6_dirtiest 3 = .ok (.istore_n 3, 1) := by decide +kernel
theorem dX6_dirtiest_4 : decode cX6_dirtiest 4 = .ok (.iconst (-1), 1) := by decide +kernel
theorem dX6_dirtiest_5 : decode cX6_dirtiest 5 = .ok (.istore 4, 2) := by decide +kernel
theorem dX6_dirtiest_7 : decode cX6_dirtiest 7 = .ok (.iconst 0, 1) := by decide +kernel
theorem dX6_dirtiest_8 : decode cX6_dirtiest 8 = .ok (.istore 5, 2) := by decide +kernel
theorem dX6_dirtiest_10 : decode cX6_dirtiest 10 = .ok (.iload 5, 2) := by decide +kernel
theorem dX6_dirtiest_12 : decode cX6_dirtiest 12 = .ok (.aload_n 0, 1) := by decide +kernel
theorem dX6_dirtiest_13 : decode cX6_dirtiest 13 = .ok (.getfield 110, 3) := by decide +kernel
theorem dX6_dirtiest_16 : decode cX6_dirtiest 16 = .ok (.getfield 157, 3) := by decide +kernel
theorem dX6_dirtiest_19 : decode cX6_dirtiest 19 = .ok (.if_icmp .ge 75, 3) := by decide +kernel
theorem dX6_dirtiest_94 : decode cX6_dirtiest 94 = .ok (.iload_n 2, 1) := by decide +kernel
theorem dX6_dirtiest_95 : decode cX6_dirtiest 95 = .ok (.ifCond .ne 7, 3) := by decide +kernel
theorem dX6_dirtiest_98 : decode cX6_dirtiest 98 = .ok (.iconst (-1), 1) := by decide +kernel
theorem dX6_dirtiest_99 : decode cX6_dirtiest 99 = .ok (.goto 11, 3) := by decide +kernel
theorem dX6_dirtiest_110 : decode cX6_dirtiest 110 = .ok (.ireturn, 1) := by decide +kernel
theorem dX6_soonestOf_0 : decode cX6_soonestOf 0 = .ok (.ldc 129, 2) := by decide +kernel
theorem dX6_soonestOf_2 : decode cX6_soonestOf 2 = .ok (.istore_n 2, 1) := by decide +kernel
theorem dX6_soonestOf_3 : decode cX6_soonestOf 3 = .ok (.iconst (-1), 1) := by decide +kernel
theorem dX6_soonestOf_4 : decode cX6_soonestOf 4 = .ok (.istore_n 3, 1) := by decide +kernel
theorem dX6_soonestOf_5 : decode cX6_soonestOf 5 = .ok (.iconst (-1), 1) := by decide +kernel
theorem dX6_soonestOf_6 : decode cX6_soonestOf 6 = .ok (.istore 4, 2) := by decide +kernel
theorem dX6_soonestOf_8 : decode cX6_soonestOf 8 = .ok (.iconst 0, 1) := by decide +kernel
theorem dX6_soonestOf_9 : decode cX6_soonestOf 9 = .ok (.istore 5, 2) := by decide +kernel
theorem dX6_soonestOf_11 : decode cX6_soonestOf 11 = .ok (.iload 5, 2) := by decide +kernel
theorem dX6_soonestOf_13 : decode cX6_soonestOf 13 = .ok (.aload_n 0, 1) := by decide +kernel
theorem dX6_soonestOf_14 : decode cX6_soonestOf 14 = .ok (.getfield 110, 3) := by decide +kernel
theorem dX6_soonestOf_17 : decode cX6_soonestOf 17 = .ok (.getfield 157, 3) := by decide +kernel
theorem dX6_soonestOf_20 : decode cX6_soonestOf 20 = .ok (.iconst 1, 1) := by decide +kernel
theorem dX6_soonestOf_21 : decode cX6_soonestOf 21 = .ok (.isub, 1) := by decide +kernel
theorem dX6_soonestOf_22 : decode cX6_soonestOf 22 = .ok (.if_icmp .ge 72, 3) := by decide +kernel
theorem dX6_soonestOf_94 : decode cX6_soonestOf 94 = .ok (.iload_n 3, 1) := by decide +kernel
theorem dX6_soonestOf_95 : decode cX6_soonestOf 95 = .ok (.iconst (-1), 1) := by decide +kernel
theorem dX6_soonestOf_96 : decode cX6_soonestOf 96 = .ok (.if_icmp .ne 7, 3) := by decide +kernel
theorem dX6_soonestOf_99 : decode cX6_soonestOf 99 = .ok (.iconst (-1), 1) := by decide +kernel
theorem dX6_soonestOf_100 : decode cX6_soonestOf 100 = .ok (.goto 11, 3) := by decide +kernel
theorem dX6_soonestOf_111 : decode cX6_soonestOf 111 = .ok (.ireturn, 1) := by decide +kernel
theorem dX6_idle_0 : decode cX6_idle 0 = .ok (.iconst 1, 1) := by decide +kernel
theorem dX6_idle_1 : decode cX6_idle 1 = .ok (.aload_n 0, 1) := by decide +kernel
theorem dX6_idle_2 : decode cX6_idle 2 = .ok (.getfield 16, 3) := by decide +kernel
theorem dX6_idle_5 : decode cX6_idle 5 = .ok (.getfield 179, 3) := by decide +kernel
theorem dX6_idle_8 : decode cX6_idle 8 = .ok (.ishl, 1) := by decide +kernel
theorem dX6_idle_9 : decode cX6_idle 9 = .ok (.iconst 1, 1) := by decide +kernel
theorem dX6_idle_10 : decode cX6_idle 10 = .ok (.isub, 1) := by decide +kernel
theorem dX6_idle_11 : decode cX6_idle 11 = .ok (.aload_n 0, 1) := by decide +kernel
theorem dX6_idle_12 : decode cX6_idle 12 = .ok (.getfield 110, 3) := by decide +kernel
theorem dX6_idle_15 : decode cX6_idle 15 = .ok (.invokevirtual 270, 3) := by decide +kernel
theorem dX6_idle_18 : decode cX6_idle 18 = .ok (.iconst (-1), 1) := by decide +kernel
theorem dX6_idle_19 : decode cX6_idle 19 = .ok (.ixor, 1) := by decide +kernel
theorem dX6_idle_20 : decode cX6_idle 20 = .ok (.iand, 1) := by decide +kernel
theorem dX6_idle_21 : decode cX6_idle 21 = .ok (.ireturn, 1) := by decide +kernel
theorem dX6_law_0 : decode cX6_law 0 = .ok (.iload_n 1, 1) := by decide +kernel
theorem dX6_law_1 : decode cX6_law 1 = .ok (.iconst 1, 1) := by decide +kernel
theorem dX6_law_2 : decode cX6_law 2 = .ok (.if_icmp .lt 16, 3) := by decide +kernel
theorem dX6_law_18 : decode cX6_law 18 = .ok (.iconst (-1), 1) := by decide +kernel
theorem dX6_law_19 : decode cX6_law 19 = .ok (.ireturn, 1) := by decide +kernel
theorem dX6_law_5 : decode cX6_law 5 = .ok (.iload_n 1, 1) := by decide +kernel
theorem dX6_law_6 : decode cX6_law 6 = .ok (.bipush 9, 2) := by decide +kernel
theorem dX6_law_8 : decode cX6_law 8 = .ok (.if_icmp .gt 10, 3) := by decide +kernel
theorem dX6_law_11 : decode cX6_law 11 = .ok (.aload_n 0, 1) := by decide +kernel
theorem dX6_law_12 : decode cX6_law 12 = .ok (.invokevirtual 211, 3) := by decide +kernel
theorem dX6_law_15 : decode cX6_law 15 = .ok (.ifCond .ne 5, 3) := by decide +kernel
theorem dX6_commonDivisor_0 : decode cX6_commonDivisor 0 = .ok (.iload_n 0, 1) := by decide +kernel
theorem dX6_commonDivisor_1 : decode cX6_commonDivisor 1 = .ok (.istore_n 2, 1) := by decide +kernel
theorem dX6_commonDivisor_2 : decode cX6_commonDivisor 2 = .ok (.iload_n 1, 1) := by decide +kernel
theorem dX6_commonDivisor_3 : decode cX6_commonDivisor 3 = .ok (.istore_n 3, 1) := by decide +kernel
theorem dX6_commonDivisor_4 : decode cX6_commonDivisor 4 = .ok (.iconst 0, 1) := by decide +kernel
theorem dX6_commonDivisor_5 : decode cX6_commonDivisor 5 = .ok (.istore 4, 2) := by decide +kernel
theorem dX6_commonDivisor_7 : decode cX6_commonDivisor 7 = .ok (.iload 4, 2) := by decide +kernel
theorem dX6_commonDivisor_9 : decode cX6_commonDivisor 9 = .ok (.bipush 64, 2) := by decide +kernel
theorem dX6_commonDivisor_11 : decode cX6_commonDivisor 11 = .ok (.if_icmp .ge 23, 3) := by decide +kernel
theorem dX6_commonDivisor_14 : decode cX6_commonDivisor 14 = .ok (.iload_n 3, 1) := by decide +kernel
theorem dX6_commonDivisor_15 : decode cX6_commonDivisor 15 = .ok (.ifCond .eq 19, 3) := by decide +kernel
theorem dX6_commonDivisor_18 : decode cX6_commonDivisor 18 = .ok (.iload_n 2, 1) := by decide +kernel
theorem dX6_commonDivisor_19 : decode cX6_commonDivisor 19 = .ok (.iload_n 3, 1) := by decide +kernel
theorem dX6_commonDivisor_20 : decode cX6_commonDivisor 20 = .ok (.irem, 1) := by decide +kernel
theorem dX6_commonDivisor_21 : decode cX6_commonDivisor 21 = .ok (.istore 5, 2) := by decide +kernel
theorem dX6_commonDivisor_23 : decode cX6_commonDivisor 23 = .ok (.iload_n 3, 1) := by decide +kernel
theorem dX6_commonDivisor_24 : decode cX6_commonDivisor 24 = .ok (.istore_n 2, 1) := by decide +kernel
theorem dX6_commonDivisor_25 : decode cX6_commonDivisor 25 = .ok (.iload 5, 2) := by decide +kernel
theorem dX6_commonDivisor_27 : decode cX6_commonDivisor 27 = .ok (.istore_n 3, 1) := by decide +kernel
theorem dX6_commonDivisor_28 : decode cX6_commonDivisor 28 = .ok (.iinc 4 1, 3) := by decide +kernel
theorem dX6_commonDivisor_31 : decode cX6_commonDivisor 31 = .ok (.goto (-24), 3) := by decide +kernel
theorem dX6_commonDivisor_34 : decode cX6_commonDivisor 34 = .ok (.iload_n 2, 1) := by decide +kernel
theorem dX6_commonDivisor_35 : decode cX6_commonDivisor 35 = .ok (.ireturn, 1) := by decide +kernel
theorem dX6_canLoseBehind_0 : decode cX6_canLoseBehind 0 = .ok (.aload_n 0, 1) := by decide +kernel
theorem dX6_canLoseBehind_1 : decode cX6_canLoseBehind 1 = .ok (.getfield 110, 3) := by decide +kernel
theorem dX6_canLoseBehind_4 : decode cX6_canLoseBehind 4 = .ok (.getfield 176, 3) := by decide +kernel
theorem dX6_canLoseBehind_7 : decode cX6_canLoseBehind 7 = .ok (.iconst (-1), 1) := by decide +kernel
theorem dX6_canLoseBehind_8 : decode cX6_canLoseBehind 8 = .ok (.if_icmp .eq 18, 3) := by decide +kernel
theorem dX6_canLoseBehind_26 : decode cX6_canLoseBehind 26 = .ok (.iconst 0, 1) := by decide +kernel
theorem dX6_canLoseBehind_27 : decode cX6_canLoseBehind 27 = .ok (.istore_n 2, 1) := by decide +kernel
theorem dX6_canLoseBehind_28 : decode cX6_canLoseBehind 28 = .ok (.aload_n 0, 1) := by decide +kernel
theorem dX6_canLoseBehind_29 : decode cX6_canLoseBehind 29 = .ok (.getfield 110, 3) := by decide +kernel
theorem dX6_canLoseBehind_32 : decode cX6_canLoseBehind 32 = .ok (.getfield 157, 3) := by decide +kernel
theorem dX6_canLoseBehind_35 : decode cX6_canLoseBehind 35 = .ok (.iload_n 2, 1) := by decide +kernel
theorem dX6_canLoseBehind_36 : decode cX6_canLoseBehind 36 = .ok (.ifCond .eq 7, 3) := by decide +kernel
theorem dX6_canLoseBehind_43 : decode cX6_canLoseBehind 43 = .ok (.iconst 0, 1) := by decide +kernel
theorem dX6_canLoseBehind_44 : decode cX6_canLoseBehind 44 = .ok (.iadd, 1) := by decide +kernel
theorem dX6_canLoseBehind_45 : decode cX6_canLoseBehind 45 = .ok (.iconst 2, 1) := by decide +kernel
theorem dX6_canLoseBehind_46 : decode cX6_canLoseBehind 46 = .ok (.if_icmp .lt 7, 3) := by decide +kernel
theorem dX6_canLoseBehind_53 : decode cX6_canLoseBehind 53 = .ok (.iconst 0, 1) := by decide +kernel
theorem dX6_canLoseBehind_54 : decode cX6_canLoseBehind 54 = .ok (.ireturn, 1) := by decide +kernel
theorem dX6_odds_0 : decode cX6_odds 0 = .ok (.iload_n 1, 1) := by decide +kernel
theorem dX6_odds_1 : decode cX6_odds 1 = .ok (.ifCond .lt 17, 3) := by decide +kernel
theorem dX6_odds_18 : decode cX6_odds 18 = .ok (.iconst (-1), 1) := by decide +kernel
theorem dX6_odds_19 : decode cX6_odds 19 = .ok (.ireturn, 1) := by decide +kernel
theorem dX6_odds_4 : decode cX6_odds 4 = .ok (.iload_n 1, 1) := by decide +kernel
theorem dX6_odds_5 : decode cX6_odds 5 = .ok (.iconst 4, 1) := by decide +kernel
theorem dX6_odds_6 : decode cX6_odds 6 = .ok (.if_icmp .gt 12, 3) := by decide +kernel
theorem dX6_odds_9 : decode cX6_odds 9 = .ok (.iload_n 2, 1) := by decide +kernel
theorem dX6_odds_10 : decode cX6_odds 10 = .ok (.ifCond .lt 8, 3) := by decide +kernel
theorem dX6_odds_13 : decode cX6_odds 13 = .ok (.iload_n 2, 1) := by decide +kernel
theorem dX6_odds_14 : decode cX6_odds 14 = .ok (.iconst 1, 1) := by decide +kernel
theorem dX6_odds_15 : decode cX6_odds 15 = .ok (.if_icmp .le 5, 3) := by decide +kernel
theorem dX6_odds_20 : decode cX6_odds 20 = .ok (.iconst 1, 1) := by decide +kernel
theorem dX6_odds_21 : decode cX6_odds 21 = .ok (.istore_n 3, 1) := by decide +kernel
theorem dX6_odds_22 : decode cX6_odds 22 = .ok (.iconst 1, 1) := by decide +kernel
theorem dX6_odds_23 : decode cX6_odds 23 = .ok (.istore 4, 2) := by decide +kernel
theorem dX6_odds_25 : decode cX6_odds 25 = .ok (.iconst 1, 1) := by decide +kernel
theorem dX6_odds_26 : decode cX6_odds 26 = .ok (.istore 5, 2) := by decide +kernel
theorem dX6_odds_28 : decode cX6_odds 28 = .ok (.iload 5, 2) := by decide +kernel
theorem dX6_odds_30 : decode cX6_odds 30 = .ok (.iload_n 1, 1) := by decide +kernel
theorem dX6_odds_31 : decode cX6_odds 31 = .ok (.if_icmp .gt 38, 3) := by decide +kernel
theorem dX6_odds_69 : decode cX6_odds 69 = .ok (.iload 4, 2) := by decide +kernel
theorem dX6_odds_71 : decode cX6_odds 71 = .ok (.iload_n 3, 1) := by decide +kernel
theorem dX6_odds_72 : decode cX6_odds 72 = .ok (.invokestatic 314, 3) := by decide +kernel
theorem dX6_odds_75 : decode cX6_odds 75 = .ok (.istore 5, 2) := by decide +kernel
theorem dX6_odds_77 : decode cX6_odds 77 = .ok (.iload 5, 2) := by decide +kernel
theorem dX6_odds_79 : decode cX6_odds 79 = .ok (.ifCond .ne 5, 3) := by decide +kernel
theorem dX6_odds_84 : decode cX6_odds 84 = .ok (.iload_n 2, 1) := by decide +kernel
theorem dX6_odds_85 : decode cX6_odds 85 = .ok (.ifCond .ne 10, 3) := by decide +kernel
theorem dX6_odds_95 : decode cX6_odds 95 = .ok (.iload 4, 2) := by decide +kernel
theorem dX6_odds_97 : decode cX6_odds 97 = .ok (.iload 5, 2) := by decide +kernel
theorem dX6_odds_99 : decode cX6_odds 99 = .ok (.idiv, 1) := by decide +kernel
theorem dX6_odds_100 : decode cX6_odds 100 = .ok (.ireturn, 1) := by decide +kernel
theorem dX6_odds_88 : decode cX6_odds 88 = .ok (.iload_n 3, 1) := by decide +kernel
theorem dX6_odds_89 : decode cX6_odds 89 = .ok (.iload 5, 2) := by decide +kernel
theorem dX6_odds_91 : decode cX6_odds 91 = .ok (.idiv, 1) := by decide +kernel
theorem dX6_odds_92 : decode cX6_odds 92 = .ok (.goto 8, 3) := by decide +kernel
theorem dX6_odds_34 : decode cX6_odds 34 = .ok (.aload_n 0, 1) := by decide +kernel
theorem dX6_odds_35 : decode cX6_odds 35 = .ok (.iload 5, 2) := by decide +kernel
theorem dX6_odds_37 : decode cX6_odds 37 = .ok (.invokevirtual 308, 3) := by decide +kernel
theorem dX6_odds_40 : decode cX6_odds 40 = .ok (.ifCond .eq 23, 3) := by decide +kernel
theorem dX6_odds_63 : decode cX6_odds 63 = .ok (.iinc 5 1, 3) := by decide +kernel
theorem dX6_odds_66 : decode cX6_odds 66 = .ok (.goto (-38), 3) := by decide +kernel
theorem dX6_lies_0 : decode cX6_lies 0 = .ok (.iload_n 1, 1) := by decide +kernel
theorem dX6_lies_1 : decode cX6_lies 1 = .ok (.ifCond .lt 11, 3) := by decide +kernel
theorem dX6_lies_12 : decode cX6_lies 12 = .ok (.bipush (-2), 2) := by decide +kernel
theorem dX6_lies_14 : decode cX6_lies 14 = .ok (.goto 9, 3) := by decide +kernel
theorem dX6_lies_23 : decode cX6_lies 23 = .ok (.ireturn, 1) := by decide +kernel
theorem dX6_lies_4 : decode cX6_lies 4 = .ok (.iload_n 1, 1) := by decide +kernel
theorem dX6_lies_5 : decode cX6_lies 5 = .ok (.aload_n 0, 1) := by decide +kernel
theorem dX6_lies_6 : decode cX6_lies 6 = .ok (.getfield 116, 3) := by decide +kernel
theorem dX6_lies_9 : decode cX6_lies 9 = .ok (.if_icmp .lt 8, 3) := by decide +kernel
theorem dX6_seen_0 : decode cX6_seen 0 = .ok (.iload_n 1, 1) := by decide +kernel
theorem dX6_seen_1 : decode cX6_seen 1 = .ok (.ifCond .lt 19, 3) := by decide +kernel
theorem dX6_seen_20 : decode cX6_seen 20 = .ok (.iconst (-1), 1) := by decide +kernel
theorem dX6_seen_21 : decode cX6_seen 21 = .ok (.ireturn, 1) := by decide +kernel
theorem dX6_seen_4 : decode cX6_seen 4 = .ok (.iload_n 1, 1) := by decide +kernel
theorem dX6_seen_5 : decode cX6_seen 5 = .ok (.bipush 60, 2) := by decide +kernel
theorem dX6_seen_7 : decode cX6_seen 7 = .ok (.if_icmp .gt 13, 3) := by decide +kernel
theorem dX6_seen_10 : decode cX6_seen 10 = .ok (.aload_n 0, 1) := by decide +kernel
theorem dX6_seen_11 : decode cX6_seen 11 = .ok (.getfield 16, 3) := by decide +kernel
theorem dX6_seen_14 : decode cX6_seen 14 = .ok (.getfield 94, 3) := by decide +kernel
theorem dX6_seen_17 : decode cX6_seen 17 = .ok (.ifCond .ne 5, 3) := by decide +kernel
theorem dX4_takeBack_0 : decode cX4_takeBack 0 = .ok (.iload_n 1, 1) := by decide +kernel
theorem dX4_takeBack_1 : decode cX4_takeBack 1 = .ok (.ifCond .lt 21, 3) := by decide +kernel
theorem dX4_takeBack_22 : decode cX4_takeBack 22 = .ok (.iconst 0, 1) := by decide +kernel
theorem dX4_takeBack_23 : decode cX4_takeBack 23 = .ok (.ireturn, 1) := by decide +kernel
theorem dX4_takeBack_4 : decode cX4_takeBack 4 = .ok (.iload_n 1, 1) := by decide +kernel
theorem dX4_takeBack_5 : decode cX4_takeBack 5 = .ok (.aload_n 0, 1) := by decide +kernel
theorem dX4_takeBack_6 : decode cX4_takeBack 6 = .ok (.getfield 25, 3) := by decide +kernel
theorem dX4_takeBack_9 : decode cX4_takeBack 9 = .ok (.if_icmp .ge 13, 3) := by decide +kernel
theorem dX6_untell_0 : decode cX6_untell 0 = .ok (.aload_n 0, 1) := by decide +kernel
theorem dX6_untell_1 : decode cX6_untell 1 = .ok (.getfield 69, 3) := by decide +kernel
theorem dX6_untell_4 : decode cX6_untell 4 = .ok (.iload_n 1, 1) := by decide +kernel
theorem dX6_untell_5 : decode cX6_untell 5 = .ok (.aload_n 0, 1) := by decide +kernel
theorem dX6_untell_6 : decode cX6_untell 6 = .ok (.getfield 317, 3) := by decide +kernel
theorem dX6_untell_9 : decode cX6_untell 9 = .ok (.invokevirtual 324, 3) := by decide +kernel
theorem dX6_untell_12 : decode cX6_untell 12 = .ok (.ireturn, 1) := by decide +kernel
theorem dX6_later_0 : decode cX6_later 0 = .ok (.iload_n 1, 1) := by decide +kernel
theorem dX6_later_1 : decode cX6_later 1 = .ok (.ifCond .lt 22, 3) := by decide +kernel
theorem dX6_later_23 : decode cX6_later 23 = .ok (.iconst (-1), 1) := by decide +kernel
theorem dX6_later_24 : decode cX6_later 24 = .ok (.ireturn, 1) := by decide +kernel
theorem dX6_later_4 : decode cX6_later 4 = .ok (.iload_n 1, 1) := by decide +kernel
theorem dX6_later_5 : decode cX6_later 5 = .ok (.sipush 1000, 3) := by decide +kernel
theorem dX6_later_8 : decode cX6_later 8 = .ok (.if_icmp .gt 15, 3) := by decide +kernel
theorem dX6_later_11 : decode cX6_later 11 = .ok (.aload_n 0, 1) := by decide +kernel
theorem dX6_later_12 : decode cX6_later 12 = .ok (.getfield 317, 3) := by decide +kernel
theorem dX6_later_15 : decode cX6_later 15 = .ok (.iload_n 1, 1) := by decide +kernel
theorem dX6_later_16 : decode cX6_later 16 = .ok (.iadd, 1) := by decide +kernel
theorem dX6_later_17 : decode cX6_later 17 = .ok (.ldc_w 327, 3) := by decide +kernel
theorem dX6_later_20 : decode cX6_later 20 = .ok (.if_icmp .le 5, 3) := by decide +kernel
theorem dX6_later_25 : decode cX6_later 25 = .ok (.aload_n 0, 1) := by decide +kernel
theorem dX6_later_26 : decode cX6_later 26 = .ok (.dup, 1) := by decide +kernel
theorem dX6_later_27 : decode cX6_later 27 = .ok (.getfield 317, 3) := by decide +kernel
theorem dX6_later_30 : decode cX6_later 30 = .ok (.iload_n 1, 1) := by decide +kernel
theorem dX6_later_31 : decode cX6_later 31 = .ok (.iadd, 1) := by decide +kernel
theorem dX6_later_32 : decode cX6_later 32 = .ok (.putfield 317, 3) := by decide +kernel
theorem dX6_later_35 : decode cX6_later 35 = .ok (.aload_n 0, 1) := by decide +kernel
theorem dX6_later_36 : decode cX6_later 36 = .ok (.getfield 317, 3) := by decide +kernel
theorem dX6_later_39 : decode cX6_later 39 = .ok (.ireturn, 1) := by decide +kernel
theorem dX6_fitsAnsweredBy_0 : decode cX6_fitsAnsweredBy 0 = .ok (.iconst 0, 1) := by decide +kernel
theorem dX6_fitsAnsweredBy_1 : decode cX6_fitsAnsweredBy 1 = .ok (.istore_n 3, 1) := by decide +kernel
theorem dX6_fitsAnsweredBy_2 : decode cX6_fitsAnsweredBy 2 = .ok (.iconst 0, 1) := by decide +kernel
theorem dX6_fitsAnsweredBy_3 : decode cX6_fitsAnsweredBy 3 = .ok (.istore 4, 2) := by decide +kernel
theorem dX6_fitsAnsweredBy_5 : decode cX6_fitsAnsweredBy 5 = .ok (.iload 4, 2) := by decide +kernel
theorem dX6_fitsAnsweredBy_7 : decode cX6_fitsAnsweredBy 7 = .ok (.aload_n 0, 1) := by decide +kernel
theorem dX6_fitsAnsweredBy_8 : decode cX6_fitsAnsweredBy 8 = .ok (.invokevirtual 122, 3) := by decide +kernel
theorem dX6_fitsAnsweredBy_11 : decode cX6_fitsAnsweredBy 11 = .ok (.if_icmp .ge 41, 3) := by decide +kernel
theorem dX6_fitsAnsweredBy_52 : decode cX6_fitsAnsweredBy 52 = .ok (.iload_n 3, 1) := by decide +kernel
theorem dX6_fitsAnsweredBy_53 : decode cX6_fitsAnsweredBy 53 = .ok (.ireturn, 1) := by decide +kernel
theorem dX6_fits_0 : decode cX6_fits 0 = .ok (.aload_n 0, 1) := by decide +kernel
theorem dX6_fits_1 : decode cX6_fits 1 = .ok (.ldc 129, 2) := by decide +kernel
theorem dX6_fits_3 : decode cX6_fits 3 = .ok (.iload_n 1, 1) := by decide +kernel
theorem dX6_fits_4 : decode cX6_fits 4 = .ok (.invokevirtual 328, 3) := by decide +kernel
theorem dX6_fits_7 : decode cX6_fits 7 = .ok (.ireturn, 1) := by decide +kernel
theorem dX6_culprit_0 : decode cX6_culprit 0 = .ok (.iload_n 1, 1) := by decide +kernel
theorem dX6_culprit_1 : decode cX6_culprit 1 = .ok (.istore_n 3, 1) := by decide +kernel
theorem dX6_culprit_2 : decode cX6_culprit 2 = .ok (.iconst 0, 1) := by decide +kernel
theorem dX6_culprit_3 : decode cX6_culprit 3 = .ok (.istore 4, 2) := by decide +kernel
theorem dX6_culprit_5 : decode cX6_culprit 5 = .ok (.iload 4, 2) := by decide +kernel
theorem dX6_culprit_7 : decode cX6_culprit 7 = .ok (.aload_n 0, 1) := by decide +kernel
theorem dX6_culprit_8 : decode cX6_culprit 8 = .ok (.invokevirtual 122, 3) := by decide +kernel
theorem dX6_culprit_11 : decode cX6_culprit 11 = .ok (.if_icmp .ge 39, 3) := by decide +kernel
theorem dX6_culprit_50 : decode cX6_culprit 50 = .ok (.bipush (-2), 2) := by decide +kernel
theorem dX6_culprit_52 : decode cX6_culprit 52 = .ok (.ireturn, 1) := by decide +kernel
theorem dX6_ask_0 : decode cX6_ask 0 = .ok (.aload_n 0, 1) := by decide +kernel
theorem dX6_ask_1 : decode cX6_ask 1 = .ok (.iload_n 2, 1) := by decide +kernel
theorem dX6_ask_2 : decode cX6_ask 2 = .ok (.invokevirtual 334, 3) := by decide +kernel
theorem dX6_ask_5 : decode cX6_ask 5 = .ok (.istore_n 3, 1) := by decide +kernel
theorem dX6_ask_6 : decode cX6_ask 6 = .ok (.iload_n 3, 1) := by decide +kernel
theorem dX6_ask_7 : decode cX6_ask 7 = .ok (.ifCond .eq 12, 3) := by decide +kernel
theorem dX6_ask_19 : decode cX6_ask 19 = .ok (.iconst (-1), 1) := by decide +kernel
theorem dX6_ask_20 : decode cX6_ask 20 = .ok (.ireturn, 1) := by decide +kernel
theorem dX5_init_0 : decode cX5_init 0 = .ok (.aload_n 0, 1) := by decide +kernel
theorem dX5_init_1 : decode cX5_init 1 = .ok (.invokespecial 3, 3) := by decide +kernel
theorem dX5_init_4 : decode cX5_init 4 = .ok (.aload_n 0, 1) := by decide +kernel
theorem dX5_init_5 : decode cX5_init 5 = .ok (.bipush 6, 2) := by decide +kernel
theorem dX5_init_7 : decode cX5_init 7 = .ok (.newarray .int, 2) := by decide +kernel
theorem dX5_init_9 : decode cX5_init 9 = .ok (.putfield 9, 3) := by decide +kernel
theorem dX5_init_12 : decode cX5_init 12 = .ok (.aload_n 0, 1) := by decide +kernel
theorem dX5_init_13 : decode cX5_init 13 = .ok (.bipush 8, 2) := by decide +kernel
theorem dX5_init_15 : decode cX5_init 15 = .ok (.newarray .int, 2) := by decide +kernel
theorem dX5_init_17 : decode cX5_init 17 = .ok (.putfield 15, 3) := by decide +kernel
theorem dX5_init_20 : decode cX5_init 20 = .ok (.aload_n 0, 1) := by decide +kernel
theorem dX5_init_21 : decode cX5_init 21 = .ok (.bipush 8, 2) := by decide +kernel
theorem dX5_init_23 : decode cX5_init 23 = .ok (.newarray .int, 2) := by decide +kernel
theorem dX5_init_25 : decode cX5_init 25 = .ok (.putfield 18, 3) := by decide +kernel
theorem dX5_init_28 : decode cX5_init 28 = .ok (.aload_n 0, 1) := by decide +kernel
theorem dX5_init_29 : decode cX5_init 29 = .ok (.sipush 328, 3) := by decide +kernel
theorem dX5_init_32 : decode cX5_init 32 = .ok (.newarray .int, 2) := by decide +kernel
theorem dX5_init_34 : decode cX5_init 34 = .ok (.putfield 21, 3) := by decide +kernel
theorem dX5_init_37 : decode cX5_init 37 = .ok (.aload_n 0, 1) := by decide +kernel
theorem dX5_init_38 : decode cX5_init 38 = .ok (.sipush 328, 3) := by decide +kernel
theorem dX5_init_41 : decode cX5_init 41 = .ok (.newarray .int, 2) := by decide +kernel
theorem dX5_init_43 : decode cX5_init 43 = .ok (.putfield 24, 3) := by decide +kernel
theorem dX5_init_46 : decode cX5_init 46 = .ok (.aload_n 0, 1) := by decide +kernel
theorem dX5_init_47 : decode cX5_init 47 = .ok (.bipush 41, 2) := by decide +kernel
theorem dX5_init_49 : decode cX5_init 49 = .ok (.newarray .int, 2) := by decide +kernel
theorem dX5_init_51 : decode cX5_init 51 = .ok (.putfield 27, 3) := by decide +kernel
theorem dX5_init_54 : decode cX5_init 54 = .ok (.aload_n 0, 1) := by decide +kernel
theorem dX5_init_55 : decode cX5_init 55 = .ok (.bipush 41, 2) := by decide +kernel
theorem dX5_init_57 : decode cX5_init 57 = .ok (.newarray .int, 2) := by decide +kernel
theorem dX5_init_59 : decode cX5_init 59 = .ok (.putfield 30, 3) := by decide +kernel
theorem dX5_init_62 : decode cX5_init 62 = .ok (.aload_n 0, 1) := by decide +kernel
theorem dX5_init_63 : decode cX5_init 63 = .ok (.iconst (-1), 1) := by decide +kernel
theorem dX5_init_64 : decode cX5_init 64 = .ok (.putfield 33, 3) := by decide +kernel
theorem dX5_init_67 : decode cX5_init 67 = .ok (.return_, 1) := by decide +kernel
theorem dX6_image_0 : decode cX6_image 0 = .ok (.iload_n 1, 1) := by decide +kernel
theorem dX6_image_1 : decode cX6_image 1 = .ok (.ifCond .lt 8, 3) := by decide +kernel
theorem dX6_image_4 : decode cX6_image 4 = .ok (.iload_n 1, 1) := by decide +kernel
theorem dX6_image_5 : decode cX6_image 5 = .ok (.iconst 3, 1) := by decide +kernel
theorem dX6_image_6 : decode cX6_image 6 = .ok (.if_icmp .lt 5, 3) := by decide +kernel
theorem dX6_image_11 : decode cX6_image 11 = .ok (.aload_n 0, 1) := by decide +kernel
theorem dX6_image_12 : decode cX6_image 12 = .ok (.getfield 52, 3) := by decide +kernel
theorem dX6_image_15 : decode cX6_image 15 = .ok (.iload_n 1, 1) := by decide +kernel
theorem dX6_image_16 : decode cX6_image 16 = .ok (.aaload, 1) := by decide +kernel
theorem dX6_image_17 : decode cX6_image 17 = .ok (.astore_n 2, 1) := by decide +kernel
theorem dX6_image_18 : decode cX6_image 18 = .ok (.aload_n 2, 1) := by decide +kernel
theorem dX6_image_19 : decode cX6_image 19 = .ok (.ifnonnull 18, 3) := by decide +kernel
theorem dX6_image_22 : decode cX6_image 22 = .ok (.new 41, 3) := by decide +kernel
theorem dX6_image_25 : decode cX6_image 25 = .ok (.dup, 1) := by decide +kernel
theorem dX6_image_26 : decode cX6_image 26 = .ok (.invokespecial 47, 3) := by decide +kernel
theorem dX6_image_29 : decode cX6_image 29 = .ok (.astore_n 2, 1) := by decide +kernel
theorem dX6_image_30 : decode cX6_image 30 = .ok (.aload_n 0, 1) := by decide +kernel
theorem dX6_image_31 : decode cX6_image 31 = .ok (.getfield 52, 3) := by decide +kernel
theorem dX6_image_34 : decode cX6_image 34 = .ok (.iload_n 1, 1) := by decide +kernel
theorem dX6_image_35 : decode cX6_image 35 = .ok (.aload_n 2, 1) := by decide +kernel
theorem dX6_image_36 : decode cX6_image 36 = .ok (.aastore, 1) := by decide +kernel
theorem dX6_image_37 : decode cX6_image 37 = .ok (.aload_n 2, 1) := by decide +kernel
theorem dX6_image_38 : decode cX6_image 38 = .ok (.aload_n 0, 1) := by decide +kernel
theorem dX6_image_39 : decode cX6_image 39 = .ok (.getfield 110, 3) := by decide +kernel
theorem dX6_image_42 : decode cX6_image 42 = .ok (.invokevirtual 228, 3) := by decide +kernel
theorem dX6_image_45 : decode cX6_image 45 = .ok (.aload_n 0, 1) := by decide +kernel
theorem dX6_image_46 : decode cX6_image 46 = .ok (.getfield 55, 3) := by decide +kernel
theorem dX6_image_49 : decode cX6_image 49 = .ok (.iload_n 1, 1) := by decide +kernel
theorem dX6_image_50 : decode cX6_image 50 = .ok (.iconst 1, 1) := by decide +kernel
theorem dX6_image_51 : decode cX6_image 51 = .ok (.bastore, 1) := by decide +kernel
theorem dX6_image_52 : decode cX6_image 52 = .ok (.aload_n 0, 1) := by decide +kernel
theorem dX6_image_53 : decode cX6_image 53 = .ok (.getfield 110, 3) := by decide +kernel
theorem dX6_image_56 : decode cX6_image 56 = .ok (.getfield 142, 3) := by decide +kernel
theorem dX6_image_59 : decode cX6_image 59 = .ok (.ireturn, 1) := by decide +kernel
theorem dX6_image_9 : decode cX6_image 9 = .ok (.iconst (-1), 1) := by decide +kernel
theorem dX6_image_10 : decode cX6_image 10 = .ok (.ireturn, 1) := by decide +kernel
theorem dX6_back_0 : decode cX6_back 0 = .ok (.iload_n 1, 1) := by decide +kernel
theorem dX6_back_1 : decode cX6_back 1 = .ok (.ifCond .lt 17, 3) := by decide +kernel
theorem dX6_back_18 : decode cX6_back 18 = .ok (.iconst (-1), 1) := by decide +kernel
theorem dX6_back_19 : decode cX6_back 19 = .ok (.ireturn, 1) := by decide +kernel
theorem dX6_back_4 : decode cX6_back 4 = .ok (.iload_n 1, 1) := by decide +kernel
theorem dX6_back_5 : decode cX6_back 5 = .ok (.iconst 3, 1) := by decide +kernel
theorem dX6_back_6 : decode cX6_back 6 = .ok (.if_icmp .ge 12, 3) := by decide +kernel
theorem dX6_back_9 : decode cX6_back 9 = .ok (.aload_n 0, 1) := by decide +kernel
theorem dX6_back_10 : decode cX6_back 10 = .ok (.getfield 55, 3) := by decide +kernel
theorem dX6_back_13 : decode cX6_back 13 = .ok (.iload_n 1, 1) := by decide +kernel
theorem dX6_back_14 : decode cX6_back 14 = .ok (.baload, 1) := by decide +kernel
theorem dX6_back_15 : decode cX6_back 15 = .ok (.ifCond .ne 5, 3) := by decide +kernel
theorem dX6_about_0 : decode cX6_about 0 = .ok (.iload_n 1, 1) := by decide +kernel
theorem dX6_about_1 : decode cX6_about 1 = .ok (.tableswitch 209 0 16 #[83, 91, 99, 107, 115, 123, 131, 139, 147, 152, 162, 170, 175, 180, 188, 193, 201], 83) := by decide +kernel
theorem dX6_about_84 : decode cX6_about 84 = .ok (.aload_n 0, 1) := by decide +kernel
theorem dX6_about_85 : decode cX6_about 85 = .ok (.getfield 110, 3) := by decide +kernel
theorem dX6_about_88 : decode cX6_about 88 = .ok (.getfield 157, 3) := by decide +kernel
theorem dX6_about_91 : decode cX6_about 91 = .ok (.ireturn, 1) := by decide +kernel
theorem dX6_about_92 : decode cX6_about 92 = .ok (.aload_n 0, 1) := by decide +kernel
theorem dX6_about_93 : decode cX6_about 93 = .ok (.getfield 16, 3) := by decide +kernel
theorem dX6_about_96 : decode cX6_about 96 = .ok (.getfield 179, 3) := by decide +kernel
theorem dX6_about_99 : decode cX6_about 99 = .ok (.ireturn, 1) := by decide +kernel
theorem dX6_about_100 : decode cX6_about 100 = .ok (.aload_n 0, 1) := by decide +kernel
theorem dX6_about_101 : decode cX6_about 101 = .ok (.getfield 16, 3) := by decide +kernel
theorem dX6_about_104 : decode cX6_about 104 = .ok (.getfield 182, 3) := by decide +kernel
theorem dX6_about_107 : decode cX6_about 107 = .ok (.ireturn, 1) := by decide +kernel
theorem dX6_about_108 : decode cX6_about 108 = .ok (.aload_n 0, 1) := by decide +kernel
theorem dX6_about_109 : decode cX6_about 109 = .ok (.getfield 110, 3) := by decide +kernel
theorem dX6_about_112 : decode cX6_about 112 = .ok (.invokevirtual 195, 3) := by decide +kernel
theorem dX6_about_115 : decode cX6_about 115 = .ok (.ireturn, 1) := by decide +kernel
theorem dX6_about_116 : decode cX6_about 116 = .ok (.aload_n 0, 1) := by decide +kernel
theorem dX6_about_117 : decode cX6_about 117 = .ok (.getfield 110, 3) := by decide +kernel
theorem dX6_about_120 : decode cX6_about 120 = .ok (.getfield 342, 3) := by decide +kernel
theorem dX6_about_123 : decode cX6_about 123 = .ok (.ireturn, 1) := by decide +kernel
theorem dX6_about_124 : decode cX6_about 124 = .ok (.aload_n 0, 1) := by decide +kernel
theorem dX6_about_125 : decode cX6_about 125 = .ok (.getfield 110, 3) := by decide +kernel
theorem dX6_about_128 : decode cX6_about 128 = .ok (.getfield 249, 3) := by decide +kernel
theorem dX6_about_131 : decode cX6_about 131 = .ok (.ireturn, 1) := by decide +kernel
theorem dX6_about_132 : decode cX6_about 132 = .ok (.aload_n 0, 1) := by decide +kernel
theorem dX6_about_133 : decode cX6_about 133 = .ok (.getfield 110, 3) := by decide +kernel
theorem dX6_about_136 : decode cX6_about 136 = .ok (.getfield 142, 3) := by decide +kernel
theorem dX6_about_139 : decode cX6_about 139 = .ok (.ireturn, 1) := by decide +kernel
theorem dX6_about_140 : decode cX6_about 140 = .ok (.aload_n 0, 1) := by decide +kernel
theorem dX6_about_141 : decode cX6_about 141 = .ok (.getfield 110, 3) := by decide +kernel
theorem dX6_about_144 : decode cX6_about 144 = .ok (.getfield 345, 3) := by decide +kernel
theorem dX6_about_147 : decode cX6_about 147 = .ok (.ireturn, 1) := by decide +kernel
theorem dX6_about_148 : decode cX6_about 148 = .ok (.aload_n 0, 1) := by decide +kernel
theorem dX6_about_149 : decode cX6_about 149 = .ok (.getfield 100, 3) := by decide +kernel
theorem dX6_about_152 : decode cX6_about 152 = .ok (.ireturn, 1) := by decide +kernel
theorem dX6_about_153 : decode cX6_about 153 = .ok (.aload_n 0, 1) := by decide +kernel
theorem dX6_about_154 : decode cX6_about 154 = .ok (.getfield 103, 3) := by decide +kernel
theorem dX6_about_157 : decode cX6_about 157 = .ok (.aload_n 0, 1) := by decide +kernel
theorem dX6_about_158 : decode cX6_about 158 = .ok (.getfield 100, 3) := by decide +kernel
theorem dX6_about_161 : decode cX6_about 161 = .ok (.isub, 1) := by decide +kernel
theorem dX6_about_162 : decode cX6_about 162 = .ok (.ireturn, 1) := by decide +kernel
theorem dX6_about_163 : decode cX6_about 163 = .ok (.aload_n 0, 1) := by decide +kernel
theorem dX6_about_164 : decode cX6_about 164 = .ok (.getfield 69, 3) := by decide +kernel
theorem dX6_about_167 : decode cX6_about 167 = .ok (.getfield 348, 3) := by decide +kernel
theorem dX6_about_170 : decode cX6_about 170 = .ok (.ireturn, 1) := by decide +kernel
theorem dX6_about_171 : decode cX6_about 171 = .ok (.aload_n 0, 1) := by decide +kernel
theorem dX6_about_172 : decode cX6_about 172 = .ok (.getfield 317, 3) := by decide +kernel
theorem dX6_about_175 : decode cX6_about 175 = .ok (.ireturn, 1) := by decide +kernel
theorem dX6_about_176 : decode cX6_about 176 = .ok (.aload_n 0, 1) := by decide +kernel
theorem dX6_about_177 : decode cX6_about 177 = .ok (.getfield 79, 3) := by decide +kernel
theorem dX6_about_180 : decode cX6_about 180 = .ok (.ireturn, 1) := by decide +kernel
theorem dX6_about_181 : decode cX6_about 181 = .ok (.aload_n 0, 1) := by decide +kernel
theorem dX6_about_182 : decode cX6_about 182 = .ok (.getfield 16, 3) := by decide +kernel
theorem dX6_about_185 : decode cX6_about 185 = .ok (.getfield 351, 3) := by decide +kernel
theorem dX6_about_188 : decode cX6_about 188 = .ok (.ireturn, 1) := by decide +kernel
theorem dX6_about_189 : decode cX6_about 189 = .ok (.aload_n 0, 1) := by decide +kernel
theorem dX6_about_190 : decode cX6_about 190 = .ok (.getfield 116, 3) := by decide +kernel
theorem dX6_about_193 : decode cX6_about 193 = .ok (.ireturn, 1) := by decide +kernel
theorem dX6_about_194 : decode cX6_about 194 = .ok (.aload_n 0, 1) := by decide +kernel
theorem dX6_about_195 : decode cX6_about 195 = .ok (.getfield 16, 3) := by decide +kernel
theorem dX6_about_198 : decode cX6_about 198 = .ok (.getfield 246, 3) := by decide +kernel
theorem dX6_about_201 : decode cX6_about 201 = .ok (.ireturn, 1) := by decide +kernel
theorem dX6_about_202 : decode cX6_about 202 = .ok (.aload_n 0, 1) := by decide +kernel
theorem dX6_about_203 : decode cX6_about 203 = .ok (.getfield 16, 3) := by decide +kernel
theorem dX6_about_206 : decode cX6_about 206 = .ok (.getfield 311, 3) := by decide +kernel
theorem dX6_about_209 : decode cX6_about 209 = .ok (.ireturn, 1) := by decide +kernel
theorem dX6_about_210 : decode cX6_about 210 = .ok (.iconst (-1), 1) := by decide +kernel
theorem dX6_about_211 : decode cX6_about 211 = .ok (.ireturn, 1) := by decide +kernel
theorem dX7_feed_0 : decode cX7_feed 0 = .ok (.aload_n 0, 1) := by decide +kernel
theorem dX7_feed_1 : decode cX7_feed 1 = .ok (.getfield 211, 3) := by decide +kernel
theorem dX7_feed_4 : decode cX7_feed 4 = .ok (.bipush 20, 2) := by decide +kernel
theorem dX7_feed_6 : decode cX7_feed 6 = .ok (.iadd, 1) := by decide +kernel
theorem dX7_feed_7 : decode cX7_feed 7 = .ok (.sipush 1600, 3) := by decide +kernel
theorem dX7_feed_10 : decode cX7_feed 10 = .ok (.if_icmp .le 5, 3) := by decide +kernel
theorem dX7_feed_15 : decode cX7_feed 15 = .ok (.iconst 0, 1) := by decide +kernel
theorem dX7_feed_16 : decode cX7_feed 16 = .ok (.istore 6, 2) := by decide +kernel
theorem dX7_feed_18 : decode cX7_feed 18 = .ok (.iload 6, 2) := by decide +kernel
theorem dX7_feed_20 : decode cX7_feed 20 = .ok (.bipush 20, 2) := by decide +kernel
theorem dX7_feed_22 : decode cX7_feed 22 = .ok (.if_icmp .ge 83, 3) := by decide +kernel
theorem dX7_feed_25 : decode cX7_feed 25 = .ok (.iload 6, 2) := by decide +kernel
theorem dX7_feed_27 : decode cX7_feed 27 = .ok (.iconst 4, 1) := by decide +kernel
theorem dX7_feed_28 : decode cX7_feed 28 = .ok (.if_icmp .ge 7, 3) := by decide +kernel
theorem dX7_feed_31 : decode cX7_feed 31 = .ok (.iload_n 1, 1) := by decide +kernel
theorem dX7_feed_32 : decode cX7_feed 32 = .ok (.goto 39, 3) := by decide +kernel
theorem dX7_feed_71 : decode cX7_feed 71 = .ok (.istore 7, 2) := by decide +kernel
theorem dX7_feed_73 : decode cX7_feed 73 = .ok (.aload_n 0, 1) := by decide +kernel
theorem dX7_feed_74 : decode cX7_feed 74 = .ok (.getfield 7, 3) := by decide +kernel
theorem dX7_feed_77 : decode cX7_feed 77 = .ok (.aload_n 0, 1) := by decide +kernel
theorem dX7_feed_78 : decode cX7_feed 78 = .ok (.getfield 211, 3) := by decide +kernel
theorem dX7_feed_81 : decode cX7_feed 81 = .ok (.iload 6, 2) := by decide +kernel
theorem dX7_feed_83 : decode cX7_feed 83 = .ok (.iadd, 1) := by decide +kernel
theorem dX7_feed_84 : decode cX7_feed 84 = .ok (.iload 7, 2) := by decide +kernel
theorem dX7_feed_86 : decode cX7_feed 86 = .ok (.bipush 24, 2) := by decide +kernel
theorem dX7_feed_88 : decode cX7_feed 88 = .ok (.bipush 8, 2) := by decide +kernel
theorem dX7_feed_90 : decode cX7_feed 90 = .ok (.iload 6, 2) := by decide +kernel
theorem dX7_feed_92 : decode cX7_feed 92 = .ok (.iconst 3, 1) := by decide +kernel
theorem dX7_feed_93 : decode cX7_feed 93 = .ok (.iand, 1) := by decide +kernel
theorem dX7_feed_94 : decode cX7_feed 94 = .ok (.imul, 1) := by decide +kernel
theorem dX7_feed_95 : decode cX7_feed 95 = .ok (.isub, 1) := by decide +kernel
theorem dX7_feed_96 : decode cX7_feed 96 = .ok (.ishr, 1) := by decide +kernel
theorem dX7_feed_97 : decode cX7_feed 97 = .ok (.i2b, 1) := by decide +kernel
theorem dX7_feed_98 : decode cX7_feed 98 = .ok (.bastore, 1) := by decide +kernel
theorem dX7_feed_99 : decode cX7_feed 99 = .ok (.iinc 6 1, 3) := by decide +kernel
theorem dX7_feed_102 : decode cX7_feed 102 = .ok (.goto (-84), 3) := by decide +kernel
theorem dX7_feed_35 : decode cX7_feed 35 = .ok (.iload 6, 2) := by decide +kernel
theorem dX7_feed_37 : decode cX7_feed 37 = .ok (.bipush 8, 2) := by decide +kernel
theorem dX7_feed_39 : decode cX7_feed 39 = .ok (.if_icmp .ge 7, 3) := by decide +kernel
theorem dX7_feed_42 : decode cX7_feed 42 = .ok (.iload_n 2, 1) := by decide +kernel
theorem dX7_feed_43 : decode cX7_feed 43 = .ok (.goto 28, 3) := by decide +kernel
theorem dX7_feed_46 : decode cX7_feed 46 = .ok (.iload 6, 2) := by decide +kernel
theorem dX7_feed_48 : decode cX7_feed 48 = .ok (.bipush 12, 2) := by decide +kernel
theorem dX7_feed_50 : decode cX7_feed 50 = .ok (.if_icmp .ge 7, 3) := by decide +kernel
theorem dX7_feed_53 : decode cX7_feed 53 = .ok (.iload_n 3, 1) := by decide +kernel
theorem dX7_feed_54 : decode cX7_feed 54 = .ok (.goto 17, 3) := by decide +kernel
theorem dX7_feed_57 : decode cX7_feed 57 = .ok (.iload 6, 2) := by decide +kernel
theorem dX7_feed_59 : decode cX7_feed 59 = .ok (.bipush 16, 2) := by decide +kernel
theorem dX7_feed_61 : decode cX7_feed 61 = .ok (.if_icmp .ge 8, 3) := by decide +kernel
theorem dX7_feed_64 : decode cX7_feed 64 = .ok (.iload 4, 2) := by decide +kernel
theorem dX7_feed_66 : decode cX7_feed 66 = .ok (.goto 5, 3) := by decide +kernel
theorem dX7_feed_69 : decode cX7_feed 69 = .ok (.iload 5, 2) := by decide +kernel
theorem dX7_feed_105 : decode cX7_feed 105 = .ok (.aload_n 0, 1) := by decide +kernel
theorem dX7_feed_106 : decode cX7_feed 106 = .ok (.dup, 1) := by decide +kernel
theorem dX7_feed_107 : decode cX7_feed 107 = .ok (.getfield 211, 3) := by decide +kernel
theorem dX7_feed_110 : decode cX7_feed 110 = .ok (.bipush 20, 2) := by decide +kernel
theorem dX7_feed_112 : decode cX7_feed 112 = .ok (.iadd, 1) := by decide +kernel
theorem dX7_feed_113 : decode cX7_feed 113 = .ok (.putfield 211, 3) := by decide +kernel
theorem dX7_feed_116 : decode cX7_feed 116 = .ok (.aload_n 0, 1) := by decide +kernel
theorem dX7_feed_117 : decode cX7_feed 117 = .ok (.getfield 211, 3) := by decide +kernel
theorem dX7_feed_120 : decode cX7_feed 120 = .ok (.ireturn, 1) := by decide +kernel
theorem dX7_end_0 : decode cX7_end 0 = .ok (.iload_n 1, 1) := by decide +kernel
theorem dX7_end_1 : decode cX7_end 1 = .ok (.ifCond .lt 11, 3) := by decide +kernel
theorem dX7_end_12 : decode cX7_end 12 = .ok (.iconst (-1), 1) := by decide +kernel
theorem dX7_end_13 : decode cX7_end 13 = .ok (.ireturn, 1) := by decide +kernel
theorem dX7_end_4 : decode cX7_end 4 = .ok (.iload_n 1, 1) := by decide +kernel
theorem dX7_end_5 : decode cX7_end 5 = .ok (.aload_n 0, 1) := by decide +kernel
theorem dX7_end_6 : decode cX7_end 6 = .ok (.getfield 211, 3) := by decide +kernel
theorem dX7_end_9 : decode cX7_end 9 = .ok (.if_icmp .le 5, 3) := by decide +kernel
theorem dX7_end_14 : decode cX7_end 14 = .ok (.aload_n 0, 1) := by decide +kernel
theorem dX7_end_15 : decode cX7_end 15 = .ok (.iload_n 1, 1) := by decide +kernel
theorem dX7_end_16 : decode cX7_end 16 = .ok (.putfield 211, 3) := by decide +kernel
theorem dX7_end_19 : decode cX7_end 19 = .ok (.iload_n 1, 1) := by decide +kernel
theorem dX7_end_20 : decode cX7_end 20 = .ok (.ireturn, 1) := by decide +kernel
theorem dX7_clearBank_0 : decode cX7_clearBank 0 = .ok (.aload_n 0, 1) := by decide +kernel
theorem dX7_clearBank_1 : decode cX7_clearBank 1 = .ok (.getfield 20, 3) := by decide +kernel
theorem dX7_clearBank_4 : decode cX7_clearBank 4 = .ok (.aload_n 0, 1) := by decide +kernel
theorem dX7_clearBank_5 : decode cX7_clearBank 5 = .ok (.getfield 205, 3) := by decide +kernel
theorem dX7_clearBank_8 : decode cX7_clearBank 8 = .ok (.iconst 0, 1) := by decide +kernel
theorem dX7_clearBank_9 : decode cX7_clearBank 9 = .ok (.iastore, 1) := by decide +kernel
theorem dX7_clearBank_10 : decode cX7_clearBank 10 = .ok (.aload_n 0, 1) := by decide +kernel
theorem dX7_clearBank_11 : decode cX7_clearBank 11 = .ok (.getfield 24, 3) := by decide +kernel
theorem dX7_clearBank_14 : decode cX7_clearBank 14 = .ok (.aload_n 0, 1) := by decide +kernel
theorem dX7_clearBank_15 : decode cX7_clearBank 15 = .ok (.getfield 205, 3) := by decide +kernel
theorem dX7_clearBank_18 : decode cX7_clearBank 18 = .ok (.iconst 0, 1) := by decide +kernel
theorem dX7_clearBank_19 : decode cX7_clearBank 19 = .ok (.iastore, 1) := by decide +kernel
theorem dX7_clearBank_20 : decode cX7_clearBank 20 = .ok (.aload_n 0, 1) := by decide +kernel
theorem dX7_clearBank_21 : decode cX7_clearBank 21 = .ok (.getfield 27, 3) := by decide +kernel
theorem dX7_clearBank_24 : decode cX7_clearBank 24 = .ok (.aload_n 0, 1) := by decide +kernel
theorem dX7_clearBank_25 : decode cX7_clearBank 25 = .ok (.getfield 205, 3) := by decide +kernel
theorem dX7_clearBank_28 : decode cX7_clearBank 28 = .ok (.iconst 0, 1) := by decide +kernel
theorem dX7_clearBank_29 : decode cX7_clearBank 29 = .ok (.iastore, 1) := by decide +kernel
theorem dX7_clearBank_30 : decode cX7_clearBank 30 = .ok (.aload_n 0, 1) := by decide +kernel
theorem dX7_clearBank_31 : decode cX7_clearBank 31 = .ok (.getfield 30, 3) := by decide +kernel
theorem dX7_clearBank_34 : decode cX7_clearBank 34 = .ok (.aload_n 0, 1) := by decide +kernel
theorem dX7_clearBank_35 : decode cX7_clearBank 35 = .ok (.getfield 205, 3) := by decide +kernel
theorem dX7_clearBank_38 : decode cX7_clearBank 38 = .ok (.iconst 0, 1) := by decide +kernel
theorem dX7_clearBank_39 : decode cX7_clearBank 39 = .ok (.iastore, 1) := by decide +kernel
theorem dX7_clearBank_40 : decode cX7_clearBank 40 = .ok (.aload_n 0, 1) := by decide +kernel
theorem dX7_clearBank_41 : decode cX7_clearBank 41 = .ok (.getfield 33, 3) := by decide +kernel
theorem dX7_clearBank_44 : decode cX7_clearBank 44 = .ok (.aload_n 0, 1) := by decide +kernel
theorem dX7_clearBank_45 : decode cX7_clearBank 45 = .ok (.getfield 205, 3) := by decide +kernel
theorem dX7_clearBank_48 : decode cX7_clearBank 48 = .ok (.iconst 2, 1) := by decide +kernel
theorem dX7_clearBank_49 : decode cX7_clearBank 49 = .ok (.iastore, 1) := by decide +kernel
theorem dX7_clearBank_50 : decode cX7_clearBank 50 = .ok (.aload_n 0, 1) := by decide +kernel
theorem dX7_clearBank_51 : decode cX7_clearBank 51 = .ok (.getfield 36, 3) := by decide +kernel
theorem dX7_clearBank_54 : decode cX7_clearBank 54 = .ok (.aload_n 0, 1) := by decide +kernel
theorem dX7_clearBank_55 : decode cX7_clearBank 55 = .ok (.getfield 205, 3) := by decide +kernel
theorem dX7_clearBank_58 : decode cX7_clearBank 58 = .ok (.iconst 0, 1) := by decide +kernel
theorem dX7_clearBank_59 : decode cX7_clearBank 59 = .ok (.iastore, 1) := by decide +kernel
theorem dX7_clearBank_60 : decode cX7_clearBank 60 = .ok (.aload_n 0, 1) := by decide +kernel
theorem dX7_clearBank_61 : decode cX7_clearBank 61 = .ok (.getfield 39, 3) := by decide +kernel
theorem dX7_clearBank_64 : decode cX7_clearBank 64 = .ok (.aload_n 0, 1) := by decide +kernel
theorem dX7_clearBank_65 : decode cX7_clearBank 65 = .ok (.getfield 205, 3) := by decide +kernel
theorem dX7_clearBank_68 : decode cX7_clearBank 68 = .ok (.iconst 0, 1) := by decide +kernel
theorem dX7_clearBank_69 : decode cX7_clearBank 69 = .ok (.iastore, 1) := by decide +kernel
theorem dX7_clearBank_70 : decode cX7_clearBank 70 = .ok (.aload_n 0, 1) := by decide +kernel
theorem dX7_clearBank_71 : decode cX7_clearBank 71 = .ok (.getfield 42, 3) := by decide +kernel
theorem dX7_clearBank_74 : decode cX7_clearBank 74 = .ok (.aload_n 0, 1) := by decide +kernel
theorem dX7_clearBank_75 : decode cX7_clearBank 75 = .ok (.getfield 205, 3) := by decide +kernel
theorem dX7_clearBank_78 : decode cX7_clearBank 78 = .ok (.iconst 0, 1) := by decide +kernel
theorem dX7_clearBank_79 : decode cX7_clearBank 79 = .ok (.iastore, 1) := by decide +kernel
theorem dX7_clearBank_80 : decode cX7_clearBank 80 = .ok (.aload_n 0, 1) := by decide +kernel
theorem dX7_clearBank_81 : decode cX7_clearBank 81 = .ok (.sipush 560, 3) := by decide +kernel
theorem dX7_clearBank_84 : decode cX7_clearBank 84 = .ok (.aload_n 0, 1) := by decide +kernel
theorem dX7_clearBank_85 : decode cX7_clearBank 85 = .ok (.getfield 205, 3) := by decide +kernel
theorem dX7_clearBank_88 : decode cX7_clearBank 88 = .ok (.imul, 1) := by decide +kernel
theorem dX7_clearBank_89 : decode cX7_clearBank 89 = .ok (.putfield 208, 3) := by decide +kernel
theorem dX7_clearBank_92 : decode cX7_clearBank 92 = .ok (.return_, 1) := by decide +kernel
theorem dX7_sign_0 : decode cX7_sign 0 = .ok (.iload_n 1, 1) := by decide +kernel
theorem dX7_sign_1 : decode cX7_sign 1 = .ok (.aload_n 0, 1) := by decide +kernel
theorem dX7_sign_2 : decode cX7_sign 2 = .ok (.getfield 119, 3) := by decide +kernel
theorem dX7_sign_5 : decode cX7_sign 5 = .ok (.if_icmp .ge 16, 3) := by decide +kernel
theorem dX7_sign_21 : decode cX7_sign 21 = .ok (.iconst 0, 1) := by decide +kernel
theorem dX7_sign_22 : decode cX7_sign 22 = .ok (.ireturn, 1) := by decide +kernel
theorem dX7_goOn_0 : decode cX7_goOn 0 = .ok (.aload_n 0, 1) := by decide +kernel
theorem dX7_goOn_1 : decode cX7_goOn 1 = .ok (.aload_n 0, 1) := by decide +kernel
theorem dX7_goOn_2 : decode cX7_goOn 2 = .ok (.getfield 157, 3) := by decide +kernel
theorem dX7_goOn_5 : decode cX7_goOn 5 = .ok (.putfield 160, 3) := by decide +kernel
theorem dX7_goOn_8 : decode cX7_goOn 8 = .ok (.aload_n 0, 1) := by decide +kernel
theorem dX7_goOn_9 : decode cX7_goOn 9 = .ok (.getfield 160, 3) := by decide +kernel
theorem dX7_goOn_12 : decode cX7_goOn 12 = .ok (.aload_n 0, 1) := by decide +kernel
theorem dX7_goOn_13 : decode cX7_goOn 13 = .ok (.getfield 119, 3) := by decide +kernel
theorem dX7_goOn_16 : decode cX7_goOn 16 = .ok (.if_icmp .ge 42, 3) := by decide +kernel
theorem dX7_goOn_58 : decode cX7_goOn 58 = .ok (.aload_n 0, 1) := by decide +kernel
theorem dX7_goOn_59 : decode cX7_goOn 59 = .ok (.aload_n 0, 1) := by decide +kernel
theorem dX7_goOn_60 : decode cX7_goOn 60 = .ok (.getfield 160, 3) := by decide +kernel
theorem dX7_goOn_63 : decode cX7_goOn 63 = .ok (.invokevirtual 163, 3) := by decide +kernel
theorem dX7_goOn_66 : decode cX7_goOn 66 = .ok (.istore_n 1, 1) := by decide +kernel
theorem dX7_goOn_67 : decode cX7_goOn 67 = .ok (.aload_n 0, 1) := by decide +kernel
theorem dX7_goOn_68 : decode cX7_goOn 68 = .ok (.aload_n 0, 1) := by decide +kernel
theorem dX7_goOn_69 : decode cX7_goOn 69 = .ok (.getfield 160, 3) := by decide +kernel
theorem dX7_goOn_72 : decode cX7_goOn 72 = .ok (.iconst 1, 1) := by decide +kernel
theorem dX7_goOn_73 : decode cX7_goOn 73 = .ok (.iadd, 1) := by decide +kernel
theorem dX7_goOn_74 : decode cX7_goOn 74 = .ok (.putfield 157, 3) := by decide +kernel
theorem dX7_goOn_77 : decode cX7_goOn 77 = .ok (.aload_n 0, 1) := by decide +kernel
theorem dX7_goOn_78 : decode cX7_goOn 78 = .ok (.getfield 160, 3) := by decide +kernel
theorem dX7_goOn_81 : decode cX7_goOn 81 = .ok (.aload_n 0, 1) := by decide +kernel
theorem dX7_goOn_82 : decode cX7_goOn 82 = .ok (.getfield 119, 3) := by decide +kernel
theorem dX7_goOn_85 : decode cX7_goOn 85 = .ok (.if_icmp .lt 27, 3) := by decide +kernel
theorem dX7_goOn_88 : decode cX7_goOn 88 = .ok (.aload_n 0, 1) := by decide +kernel
theorem dX7_goOn_89 : decode cX7_goOn 89 = .ok (.iconst 0, 1) := by decide +kernel
theorem dX7_goOn_90 : decode cX7_goOn 90 = .ok (.putfield 167, 3) := by decide +kernel
theorem dX7_goOn_93 : decode cX7_goOn 93 = .ok (.aload_n 0, 1) := by decide +kernel
theorem dX7_goOn_94 : decode cX7_goOn 94 = .ok (.aload_n 0, 1) := by decide +kernel
theorem dX7_goOn_95 : decode cX7_goOn 95 = .ok (.getfield 119, 3) := by decide +kernel
theorem dX7_goOn_98 : decode cX7_goOn 98 = .ok (.putfield 160, 3) := by decide +kernel
theorem dX7_goOn_101 : decode cX7_goOn 101 = .ok (.aload_n 0, 1) := by decide +kernel
theorem dX7_goOn_102 : decode cX7_goOn 102 = .ok (.aload_n 0, 1) := by decide +kernel
theorem dX7_goOn_103 : decode cX7_goOn 103 = .ok (.getfield 119, 3) := by decide +kernel
theorem dX7_goOn_106 : decode cX7_goOn 106 = .ok (.putfield 157, 3) := by decide +kernel
theorem dX7_goOn_109 : decode cX7_goOn 109 = .ok (.goto 268, 3) := by decide +kernel
theorem dX7_goOn_377 : decode cX7_goOn 377 = .ok (.return_, 1) := by decide +kernel
theorem dX7_isGood_0 : decode cX7_isGood 0 = .ok (.aload_n 0, 1) := by decide +kernel
theorem dX7_isGood_1 : decode cX7_isGood 1 = .ok (.getfield 122, 3) := by decide +kernel
theorem dX7_isGood_4 : decode cX7_isGood 4 = .ok (.ifCond .ne 7, 3) := by decide +kernel
theorem dX7_isGood_7 : decode cX7_isGood 7 = .ok (.iconst 1, 1) := by decide +kernel
theorem dX7_isGood_8 : decode cX7_isGood 8 = .ok (.goto 4, 3) := by decide +kernel
theorem dX7_isGood_12 : decode cX7_isGood 12 = .ok (.ireturn, 1) := by decide +kernel
theorem dX7_lots_0 : decode cX7_lots 0 = .ok (.aload_n 0, 1) := by decide +kernel
theorem dX7_lots_1 : decode cX7_lots 1 = .ok (.getfield 76, 3) := by decide +kernel
theorem dX7_lots_4 : decode cX7_lots 4 = .ok (.iconst 0, 1) := by decide +kernel
theorem dX7_lots_5 : decode cX7_lots 5 = .ok (.iaload, 1) := by decide +kernel
theorem dX7_lots_6 : decode cX7_lots 6 = .ok (.ireturn, 1) := by decide +kernel
theorem dX7_layTold_0 : decode cX7_layTold 0 = .ok (.iconst 0, 1) := by decide +kernel
theorem dX7_layTold_1 : decode cX7_layTold 1 = .ok (.istore_n 1, 1) := by decide +kernel
theorem dX7_layTold_2 : decode cX7_layTold 2 = .ok (.iload_n 1, 1) := by decide +kernel
theorem dX7_layTold_3 : decode cX7_layTold 3 = .ok (.sipush 520, 3) := by decide +kernel
theorem dX7_layTold_6 : decode cX7_layTold 6 = .ok (.if_icmp .ge 16, 3) := by decide +kernel
theorem dX7_layTold_22 : decode cX7_layTold 22 = .ok (.aload_n 0, 1) := by decide +kernel
theorem dX7_layTold_23 : decode cX7_layTold 23 = .ok (.getfield 76, 3) := by decide +kernel
theorem dX7_layTold_26 : decode cX7_layTold 26 = .ok (.iconst 0, 1) := by decide +kernel
theorem dX7_layTold_27 : decode cX7_layTold 27 = .ok (.aload_n 0, 1) := by decide +kernel
theorem dX7_layTold_28 : decode cX7_layTold 28 = .ok (.getfield 24, 3) := by decide +kernel
theorem dX7_layTold_31 : decode cX7_layTold 31 = .ok (.aload_n 0, 1) := by decide +kernel
theorem dX7_layTold_32 : decode cX7_layTold 32 = .ok (.getfield 214, 3) := by decide +kernel
theorem dX7_layTold_35 : decode cX7_layTold 35 = .ok (.iaload, 1) := by decide +kernel
theorem dX7_layTold_36 : decode cX7_layTold 36 = .ok (.iastore, 1) := by decide +kernel
theorem dX7_layTold_37 : decode cX7_layTold 37 = .ok (.iconst 0, 1) := by decide +kernel
theorem dX7_layTold_38 : decode cX7_layTold 38 = .ok (.istore_n 1, 1) := by decide +kernel
theorem dX7_layTold_39 : decode cX7_layTold 39 = .ok (.iload_n 1, 1) := by decide +kernel
theorem dX7_layTold_40 : decode cX7_layTold 40 = .ok (.aload_n 0, 1) := by decide +kernel
theorem dX7_layTold_41 : decode cX7_layTold 41 = .ok (.invokevirtual 313, 3) := by decide +kernel
theorem dX7_layTold_44 : decode cX7_layTold 44 = .ok (.if_icmp .ge 31, 3) := by decide +kernel
theorem dX7_layTold_75 : decode cX7_layTold 75 = .ok (.aload_n 0, 1) := by decide +kernel
theorem dX7_layTold_76 : decode cX7_layTold 76 = .ok (.getfield 76, 3) := by decide +kernel
theorem dX7_layTold_79 : decode cX7_layTold 79 = .ok (.bipush 105, 2) := by decide +kernel
theorem dX7_layTold_81 : decode cX7_layTold 81 = .ok (.iconst (-1), 1) := by decide +kernel
theorem dX7_layTold_82 : decode cX7_layTold 82 = .ok (.iastore, 1) := by decide +kernel
theorem dX7_layTold_83 : decode cX7_layTold 83 = .ok (.aload_n 0, 1) := by decide +kernel
theorem dX7_layTold_84 : decode cX7_layTold 84 = .ok (.getfield 76, 3) := by decide +kernel
theorem dX7_layTold_87 : decode cX7_layTold 87 = .ok (.bipush 109, 2) := by decide +kernel
theorem dX7_layTold_89 : decode cX7_layTold 89 = .ok (.aload_n 0, 1) := by decide +kernel
theorem dX7_layTold_90 : decode cX7_layTold 90 = .ok (.getfield 39, 3) := by decide +kernel
theorem dX7_layTold_93 : decode cX7_layTold 93 = .ok (.aload_n 0, 1) := by decide +kernel
theorem dX7_layTold_94 : decode cX7_layTold 94 = .ok (.getfield 214, 3) := by decide +kernel
theorem dX7_layTold_97 : decode cX7_layTold 97 = .ok (.iaload, 1) := by decide +kernel
theorem dX7_layTold_98 : decode cX7_layTold 98 = .ok (.iastore, 1) := by decide +kernel
theorem dX7_layTold_99 : decode cX7_layTold 99 = .ok (.return_, 1) := by decide +kernel
theorem dX7_layTold_9 : decode cX7_layTold 9 = .ok (.aload_n 0, 1) := by decide +kernel
theorem dX7_layTold_10 : decode cX7_layTold 10 = .ok (.getfield 76, 3) := by decide +kernel
theorem dX7_layTold_13 : decode cX7_layTold 13 = .ok (.iload_n 1, 1) := by decide +kernel
theorem dX7_layTold_14 : decode cX7_layTold 14 = .ok (.iconst 0, 1) := by decide +kernel
theorem dX7_layTold_15 : decode cX7_layTold 15 = .ok (.iastore, 1) := by decide +kernel
theorem dX7_layTold_16 : decode cX7_layTold 16 = .ok (.iinc 1 1, 3) := by decide +kernel
theorem dX7_layTold_19 : decode cX7_layTold 19 = .ok (.goto (-17), 3) := by decide +kernel
theorem dX7_startAnew_0 : decode cX7_startAnew 0 = .ok (.aload_n 0, 1) := by decide +kernel
theorem dX7_startAnew_1 : decode cX7_startAnew 1 = .ok (.invokevirtual 326, 3) := by decide +kernel
theorem dX7_startAnew_4 : decode cX7_startAnew 4 = .ok (.aload_n 0, 1) := by decide +kernel
theorem dX7_startAnew_5 : decode cX7_startAnew 5 = .ok (.iconst 0, 1) := by decide +kernel
theorem dX7_startAnew_6 : decode cX7_startAnew 6 = .ok (.putfield 329, 3) := by decide +kernel
theorem dX7_startAnew_9 : decode cX7_startAnew 9 = .ok (.aload_n 0, 1) := by decide +kernel
theorem dX7_startAnew_10 : decode cX7_startAnew 10 = .ok (.iconst 0, 1) := by decide +kernel
theorem dX7_startAnew_11 : decode cX7_startAnew 11 = .ok (.putfield 332, 3) := by decide +kernel
theorem dX7_startAnew_14 : decode cX7_startAnew 14 = .ok (.aload_n 0, 1) := by decide +kernel
theorem dX7_startAnew_15 : decode cX7_startAnew 15 = .ok (.iconst 0, 1) := by decide +kernel
theorem dX7_startAnew_16 : decode cX7_startAnew 16 = .ok (.putfield 335, 3) := by decide +kernel
theorem dX7_startAnew_19 : decode cX7_startAnew 19 = .ok (.aload_n 0, 1) := by decide +kernel
theorem dX7_startAnew_20 : decode cX7_startAnew 20 = .ok (.iconst 0, 1) := by decide +kernel
theorem dX7_startAnew_21 : decode cX7_startAnew 21 = .ok (.putfield 338, 3) := by decide +kernel
theorem dX7_startAnew_24 : decode cX7_startAnew 24 = .ok (.iconst 0, 1) := by decide +kernel
theorem dX7_startAnew_25 : decode cX7_startAnew 25 = .ok (.istore_n 1, 1) := by decide +kernel
theorem dX7_startAnew_26 : decode cX7_startAnew 26 = .ok (.iload_n 1, 1) := by decide +kernel
theorem dX7_startAnew_27 : decode cX7_startAnew 27 = .ok (.iconst 3, 1) := by decide +kernel
theorem dX7_startAnew_28 : decode cX7_startAnew 28 = .ok (.if_icmp .ge 16, 3) := by decide +kernel
theorem dX7_startAnew_31 : decode cX7_startAnew 31 = .ok (.aload_n 0, 1) := by decide +kernel
theorem dX7_startAnew_32 : decode cX7_startAnew 32 = .ok (.getfield 109, 3) := by decide +kernel
theorem dX7_startAnew_35 : decode cX7_startAnew 35 = .ok (.iload_n 1, 1) := by decide +kernel
theorem dX7_startAnew_36 : decode cX7_startAnew 36 = .ok (.iconst 0, 1) := by decide +kernel
theorem dX7_startAnew_37 : decode cX7_startAnew 37 = .ok (.bastore, 1) := by decide +kernel
theorem dX7_startAnew_38 : decode cX7_startAnew 38 = .ok (.iinc 1 1, 3) := by decide +kernel
theorem dX7_startAnew_41 : decode cX7_startAnew 41 = .ok (.goto (-15), 3) := by decide +kernel
theorem dX7_startAnew_44 : decode cX7_startAnew 44 = .ok (.return_, 1) := by decide +kernel
theorem dX7_chain_0 : decode cX7_chain 0 = .ok (.aload_n 0, 1) := by decide +kernel
theorem dX7_chain_1 : decode cX7_chain 1 = .ok (.iconst 0, 1) := by decide +kernel
theorem dX7_chain_2 : decode cX7_chain 2 = .ok (.putfield 122, 3) := by decide +kernel
theorem dX7_chain_5 : decode cX7_chain 5 = .ok (.aload_n 0, 1) := by decide +kernel
theorem dX7_chain_6 : decode cX7_chain 6 = .ok (.iconst (-1), 1) := by decide +kernel
theorem dX7_chain_7 : decode cX7_chain 7 = .ok (.putfield 16, 3) := by decide +kernel
theorem dX7_chain_10 : decode cX7_chain 10 = .ok (.aload_n 0, 1) := by decide +kernel
theorem dX7_chain_11 : decode cX7_chain 11 = .ok (.aload_n 0, 1) := by decide +kernel
theorem dX7_chain_12 : decode cX7_chain 12 = .ok (.getfield 211, 3) := by decide +kernel
theorem dX7_chain_15 : decode cX7_chain 15 = .ok (.putfield 119, 3) := by decide +kernel
theorem dX7_chain_18 : decode cX7_chain 18 = .ok (.iconst 0, 1) := by decide +kernel
theorem dX7_chain_19 : decode cX7_chain 19 = .ok (.istore_n 1, 1) := by decide +kernel
theorem dX7_chain_20 : decode cX7_chain 20 = .ok (.iload_n 1, 1) := by decide +kernel
theorem dX7_chain_21 : decode cX7_chain 21 = .ok (.aload_n 0, 1) := by decide +kernel
theorem dX7_chain_22 : decode cX7_chain 22 = .ok (.getfield 119, 3) := by decide +kernel
theorem dX7_chain_25 : decode cX7_chain 25 = .ok (.if_icmp .ge 21, 3) := by decide +kernel
theorem dX7_chain_46 : decode cX7_chain 46 = .ok (.aload_n 0, 1) := by decide +kernel
theorem dX7_chain_47 : decode cX7_chain 47 = .ok (.iconst 0, 1) := by decide +kernel
theorem dX7_chain_48 : decode cX7_chain 48 = .ok (.putfield 211, 3) := by decide +kernel
theorem dX7_chain_51 : decode cX7_chain 51 = .ok (.aload_n 0, 1) := by decide +kernel
theorem dX7_chain_52 : decode cX7_chain 52 = .ok (.iconst 0, 1) := by decide +kernel
theorem dX7_chain_53 : decode cX7_chain 53 = .ok (.putfield 157, 3) := by decide +kernel
theorem dX7_chain_56 : decode cX7_chain 56 = .ok (.aload_n 0, 1) := by decide +kernel
theorem dX7_chain_57 : decode cX7_chain 57 = .ok (.iconst 1, 1) := by decide +kernel
theorem dX7_chain_58 : decode cX7_chain 58 = .ok (.aload_n 0, 1) := by decide +kernel
theorem dX7_chain_59 : decode cX7_chain 59 = .ok (.getfield 214, 3) := by decide +kernel
theorem dX7_chain_62 : decode cX7_chain 62 = .ok (.isub, 1) := by decide +kernel
theorem dX7_chain_63 : decode cX7_chain 63 = .ok (.putfield 205, 3) := by decide +kernel
theorem dX7_chain_66 : decode cX7_chain 66 = .ok (.aload_n 0, 1) := by decide +kernel
theorem dX7_chain_67 : decode cX7_chain 67 = .ok (.invokevirtual 113, 3) := by decide +kernel
theorem dX7_chain_70 : decode cX7_chain 70 = .ok (.aload_n 0, 1) := by decide +kernel
theorem dX7_chain_71 : decode cX7_chain 71 = .ok (.invokevirtual 199, 3) := by decide +kernel
theorem dX7_chain_74 : decode cX7_chain 74 = .ok (.aload_n 0, 1) := by decide +kernel
theorem dX7_chain_75 : decode cX7_chain 75 = .ok (.invokevirtual 195, 3) := by decide +kernel
theorem dX7_chain_78 : decode cX7_chain 78 = .ok (.ifCond .eq 17, 3) := by decide +kernel
theorem dX7_chain_81 : decode cX7_chain 81 = .ok (.aload_n 0, 1) := by decide +kernel
theorem dX7_chain_82 : decode cX7_chain 82 = .ok (.getfield 167, 3) := by decide +kernel
theorem dX7_chain_85 : decode cX7_chain 85 = .ok (.ifCond .eq 10, 3) := by decide +kernel
theorem dX7_chain_95 : decode cX7_chain 95 = .ok (.aload_n 0, 1) := by decide +kernel
theorem dX7_chain_96 : decode cX7_chain 96 = .ok (.invokevirtual 195, 3) := by decide +kernel
theorem dX7_chain_99 : decode cX7_chain 99 = .ok (.ifCond .ne 5, 3) := by decide +kernel
theorem dX7_chain_104 : decode cX7_chain 104 = .ok (.aload_n 0, 1) := by decide +kernel
theorem dX7_chain_105 : decode cX7_chain 105 = .ok (.aload_n 0, 1) := by decide +kernel
theorem dX7_chain_106 : decode cX7_chain 106 = .ok (.getfield 205, 3) := by decide +kernel
theorem dX7_chain_109 : decode cX7_chain 109 = .ok (.putfield 214, 3) := by decide +kernel
theorem dX7_chain_112 : decode cX7_chain 112 = .ok (.aload_n 0, 1) := by decide +kernel
theorem dX7_chain_113 : decode cX7_chain 113 = .ok (.invokevirtual 116, 3) := by decide +kernel
theorem dX7_chain_116 : decode cX7_chain 116 = .ok (.aload_n 0, 1) := by decide +kernel
theorem dX7_chain_117 : decode cX7_chain 117 = .ok (.getfield 24, 3) := by decide +kernel
theorem dX7_chain_120 : decode cX7_chain 120 = .ok (.aload_n 0, 1) := by decide +kernel
theorem dX7_chain_121 : decode cX7_chain 121 = .ok (.getfield 214, 3) := by decide +kernel
theorem dX7_chain_124 : decode cX7_chain 124 = .ok (.iaload, 1) := by decide +kernel
theorem dX7_chain_125 : decode cX7_chain 125 = .ok (.ireturn, 1) := by decide +kernel
theorem dX7_fault_0 : decode cX7_fault 0 = .ok (.iload_n 1, 1) := by decide +kernel
theorem dX7_fault_1 : decode cX7_fault 1 = .ok (.ifCond .ne 10, 3) := by decide +kernel
theorem dX7_fault_11 : decode cX7_fault 11 = .ok (.iload_n 1, 1) := by decide +kernel
theorem dX7_fault_12 : decode cX7_fault 12 = .ok (.iconst 1, 1) := by decide +kernel
theorem dX7_fault_13 : decode cX7_fault 13 = .ok (.if_icmp .ne 10, 3) := by decide +kernel
theorem dX7_fault_23 : decode cX7_fault 23 = .ok (.iconst (-1), 1) := by decide +kernel
theorem dX7_fault_24 : decode cX7_fault 24 = .ok (.ireturn, 1) := by decide +kernel
theorem dX7_fault_16 : decode cX7_fault 16 = .ok (.aload_n 0, 1) := by decide +kernel
theorem dX7_fault_17 : decode cX7_fault 17 = .ok (.getfield 16, 3) := by decide +kernel
theorem dX7_fault_20 : decode cX7_fault 20 = .ok (.goto 4, 3) := by decide +kernel
theorem dX7_fault_4 : decode cX7_fault 4 = .ok (.aload_n 0, 1) := by decide +kernel
theorem dX7_fault_5 : decode cX7_fault 5 = .ok (.getfield 122, 3) := by decide +kernel
theorem dX7_fault_8 : decode cX7_fault 8 = .ok (.goto 16, 3) := by decide +kernel
theorem dX7_isIn_0 : decode cX7_isIn 0 = .ok (.iload_n 0, 1) := by decide +kernel
theorem dX7_isIn_1 : decode cX7_isIn 1 = .ok (.iload_n 1, 1) := by decide +kernel
theorem dX7_isIn_2 : decode cX7_isIn 2 = .ok (.if_icmp .lt 12, 3) := by decide +kernel
theorem dX7_isIn_14 : decode cX7_isIn 14 = .ok (.iconst 0, 1) := by decide +kernel
theorem dX7_isIn_15 : decode cX7_isIn 15 = .ok (.ireturn, 1) := by decide +kernel
theorem dX7_isIn_5 : decode cX7_isIn 5 = .ok (.iload_n 0, 1) := by decide +kernel
theorem dX7_isIn_6 : decode cX7_isIn 6 = .ok (.iload_n 2, 1) := by decide +kernel
theorem dX7_isIn_7 : decode cX7_isIn 7 = .ok (.if_icmp .gt 7, 3) := by decide +kernel
theorem dX7_row_0 : decode cX7_row 0 = .ok (.iload_n 1, 1) := by decide +kernel
theorem dX7_row_1 : decode cX7_row 1 = .ok (.iconst 0, 1) := by decide +kernel
theorem dX7_row_2 : decode cX7_row 2 = .ok (.aload_n 0, 1) := by decide +kernel
theorem dX7_row_3 : decode cX7_row 3 = .ok (.invokevirtual 313, 3) := by decide +kernel
theorem dX7_row_6 : decode cX7_row 6 = .ok (.iconst 1, 1) := by decide +kernel
theorem dX7_row_7 : decode cX7_row 7 = .ok (.isub, 1) := by decide +kernel
theorem dX7_row_8 : decode cX7_row 8 = .ok (.invokestatic 316, 3) := by decide +kernel
theorem dX7_row_11 : decode cX7_row 11 = .ok (.ifCond .eq 11, 3) := by decide +kernel
theorem dX7_row_22 : decode cX7_row 22 = .ok (.iconst (-1), 1) := by decide +kernel
theorem dX7_row_23 : decode cX7_row 23 = .ok (.ireturn, 1) := by decide +kernel
theorem dX7_isNode_0 : decode cX7_isNode 0 = .ok (.iload_n 1, 1) := by decide +kernel
theorem dX7_isNode_1 : decode cX7_isNode 1 = .ok (.iconst 0, 1) := by decide +kernel
theorem dX7_isNode_2 : decode cX7_isNode 2 = .ok (.aload_n 0, 1) := by decide +kernel
theorem dX7_isNode_3 : decode cX7_isNode 3 = .ok (.getfield 20, 3) := by decide +kernel
theorem dX7_isNode_6 : decode cX7_isNode 6 = .ok (.aload_n 0, 1) := by decide +kernel
theorem dX7_isNode_7 : decode cX7_isNode 7 = .ok (.getfield 214, 3) := by decide +kernel
theorem dX7_isNode_10 : decode cX7_isNode 10 = .ok (.iaload, 1) := by decide +kernel
theorem dX7_isNode_11 : decode cX7_isNode 11 = .ok (.iconst 1, 1) := by decide +kernel
theorem dX7_isNode_12 : decode cX7_isNode 12 = .ok (.isub, 1) := by decide +kernel
theorem dX7_isNode_13 : decode cX7_isNode 13 = .ok (.invokestatic 316, 3) := by decide +kernel
theorem dX7_isNode_16 : decode cX7_isNode 16 = .ok (.ireturn, 1) := by decide +kernel
theorem dX7_node_0 : decode cX7_node 0 = .ok (.aload_n 0, 1) := by decide +kernel
theorem dX7_node_1 : decode cX7_node 1 = .ok (.iload_n 1, 1) := by decide +kernel
theorem dX7_node_2 : decode cX7_node 2 = .ok (.invokevirtual 320, 3) := by decide +kernel
theorem dX7_node_5 : decode cX7_node 5 = .ok (.ifCond .ne 6, 3) := by decide +kernel
theorem dX7_node_8 : decode cX7_node 8 = .ok (.bipush (-2), 2) := by decide +kernel
theorem dX7_node_10 : decode cX7_node 10 = .ok (.ireturn, 1) := by decide +kernel
theorem dX7_under_0 : decode cX7_under 0 = .ok (.iload_n 1, 1) := by decide +kernel
theorem dX7_under_1 : decode cX7_under 1 = .ok (.iconst 0, 1) := by decide +kernel
theorem dX7_under_2 : decode cX7_under 2 = .ok (.aload_n 0, 1) := by decide +kernel
theorem dX7_under_3 : decode cX7_under 3 = .ok (.invokevirtual 313, 3) := by decide +kernel
theorem dX7_under_6 : decode cX7_under 6 = .ok (.iconst 2, 1) := by decide +kernel
theorem dX7_under_7 : decode cX7_under 7 = .ok (.isub, 1) := by decide +kernel
theorem dX7_under_8 : decode cX7_under 8 = .ok (.invokestatic 316, 3) := by decide +kernel
theorem dX7_under_11 : decode cX7_under 11 = .ok (.ifCond .eq 21, 3) := by decide +kernel
theorem dX7_under_32 : decode cX7_under 32 = .ok (.iconst (-1), 1) := by decide +kernel
theorem dX7_under_33 : decode cX7_under 33 = .ok (.ireturn, 1) := by decide +kernel
theorem dX7_due_0 : decode cX7_due 0 = .ok (.iload_n 1, 1) := by decide +kernel
theorem dX7_due_1 : decode cX7_due 1 = .ok (.iconst 0, 1) := by decide +kernel
theorem dX7_due_2 : decode cX7_due 2 = .ok (.aload_n 0, 1) := by decide +kernel
theorem dX7_due_3 : decode cX7_due 3 = .ok (.invokevirtual 313, 3) := by decide +kernel
theorem dX7_due_6 : decode cX7_due 6 = .ok (.iconst 2, 1) := by decide +kernel
theorem dX7_due_7 : decode cX7_due 7 = .ok (.isub, 1) := by decide +kernel
theorem dX7_due_8 : decode cX7_due 8 = .ok (.invokestatic 316, 3) := by decide +kernel
theorem dX7_due_11 : decode cX7_due 11 = .ok (.ifCond .eq 21, 3) := by decide +kernel
theorem dX7_due_32 : decode cX7_due 32 = .ok (.iconst (-1), 1) := by decide +kernel
theorem dX7_due_33 : decode cX7_due 33 = .ok (.ireturn, 1) := by decide +kernel
theorem dX7_wrote_0 : decode cX7_wrote 0 = .ok (.aload_n 0, 1) := by decide +kernel
theorem dX7_wrote_1 : decode cX7_wrote 1 = .ok (.invokevirtual 313, 3) := by decide +kernel
theorem dX7_wrote_4 : decode cX7_wrote 4 = .ok (.ifCond .eq 16, 3) := by decide +kernel
theorem dX7_wrote_20 : decode cX7_wrote 20 = .ok (.iconst (-1), 1) := by decide +kernel
theorem dX7_wrote_21 : decode cX7_wrote 21 = .ok (.ireturn, 1) := by decide +kernel
theorem dX7_write_0 : decode cX7_write 0 = .ok (.aload_n 0, 1) := by decide +kernel
theorem dX7_write_1 : decode cX7_write 1 = .ok (.invokevirtual 313, 3) := by decide +kernel
theorem dX7_write_4 : decode cX7_write 4 = .ok (.ifCond .eq 31, 3) := by decide +kernel
theorem dX7_write_35 : decode cX7_write 35 = .ok (.iconst (-1), 1) := by decide +kernel
theorem dX7_write_36 : decode cX7_write 36 = .ok (.ireturn, 1) := by decide +kernel
theorem dX7_tick_0 : decode cX7_tick 0 = .ok (.aload_n 0, 1) := by decide +kernel
theorem dX7_tick_1 : decode cX7_tick 1 = .ok (.invokevirtual 313, 3) := by decide +kernel
theorem dX7_tick_4 : decode cX7_tick 4 = .ok (.ifCond .eq 16, 3) := by decide +kernel
theorem dX7_tick_20 : decode cX7_tick 20 = .ok (.iconst (-1), 1) := by decide +kernel
theorem dX7_tick_21 : decode cX7_tick 21 = .ok (.ireturn, 1) := by decide +kernel
theorem dX7_isMember_0 : decode cX7_isMember 0 = .ok (.aload_n 0, 1) := by decide +kernel
theorem dX7_isMember_1 : decode cX7_isMember 1 = .ok (.iload_n 1, 1) := by decide +kernel
theorem dX7_isMember_2 : decode cX7_isMember 2 = .ok (.invokevirtual 320, 3) := by decide +kernel
theorem dX7_isMember_5 : decode cX7_isMember 5 = .ok (.ifCond .eq 15, 3) := by decide +kernel
theorem dX7_isMember_20 : decode cX7_isMember 20 = .ok (.iconst 0, 1) := by decide +kernel
theorem dX7_isMember_21 : decode cX7_isMember 21 = .ok (.ireturn, 1) := by decide +kernel
theorem dX7_lose_0 : decode cX7_lose 0 = .ok (.aload_n 0, 1) := by decide +kernel
theorem dX7_lose_1 : decode cX7_lose 1 = .ok (.iload_n 1, 1) := by decide +kernel
theorem dX7_lose_2 : decode cX7_lose 2 = .ok (.invokevirtual 407, 3) := by decide +kernel
theorem dX7_lose_5 : decode cX7_lose 5 = .ok (.ifCond .eq 11, 3) := by decide +kernel
theorem dX7_lose_16 : decode cX7_lose 16 = .ok (.iconst (-1), 1) := by decide +kernel
theorem dX7_lose_17 : decode cX7_lose 17 = .ok (.ireturn, 1) := by decide +kernel
theorem dX7_join_0 : decode cX7_join 0 = .ok (.aload_n 0, 1) := by decide +kernel
theorem dX7_join_1 : decode cX7_join 1 = .ok (.iload_n 1, 1) := by decide +kernel
theorem dX7_join_2 : decode cX7_join 2 = .ok (.invokevirtual 320, 3) := by decide +kernel
theorem dX7_join_5 : decode cX7_join 5 = .ok (.ifCond .eq 37, 3) := by decide +kernel
theorem dX7_join_42 : decode cX7_join 42 = .ok (.iconst (-1), 1) := by decide +kernel
theorem dX7_join_43 : decode cX7_join 43 = .ok (.ireturn, 1) := by decide +kernel
theorem dX7_undo_0 : decode cX7_undo 0 = .ok (.aload_n 0, 1) := by decide +kernel
theorem dX7_undo_1 : decode cX7_undo 1 = .ok (.getfield 329, 3) := by decide +kernel
theorem dX7_undo_4 : decode cX7_undo 4 = .ok (.ifCond .ne 5, 3) := by decide +kernel
theorem dX7_undo_7 : decode cX7_undo 7 = .ok (.iconst 0, 1) := by decide +kernel
theorem dX7_undo_8 : decode cX7_undo 8 = .ok (.ireturn, 1) := by decide +kernel
theorem dX7_redo_0 : decode cX7_redo 0 = .ok (.aload_n 0, 1) := by decide +kernel
theorem dX7_redo_1 : decode cX7_redo 1 = .ok (.getfield 332, 3) := by decide +kernel
theorem dX7_redo_4 : decode cX7_redo 4 = .ok (.ifCond .ne 5, 3) := by decide +kernel
theorem dX7_redo_7 : decode cX7_redo 7 = .ok (.iconst 0, 1) := by decide +kernel
theorem dX7_redo_8 : decode cX7_redo 8 = .ok (.ireturn, 1) := by decide +kernel
theorem dX7_read_0 : decode cX7_read 0 = .ok (.aload_n 0, 1) := by decide +kernel
theorem dX7_read_1 : decode cX7_read 1 = .ok (.iload_n 1, 1) := by decide +kernel
theorem dX7_read_2 : decode cX7_read 2 = .ok (.invokevirtual 407, 3) := by decide +kernel
theorem dX7_read_5 : decode cX7_read 5 = .ok (.ifCond .eq 20, 3) := by decide +kernel
theorem dX7_read_25 : decode cX7_read 25 = .ok (.bipush (-2), 2) := by decide +kernel
theorem dX7_read_27 : decode cX7_read 27 = .ok (.ireturn, 1) := by decide +kernel
theorem dX7_lazy_0 : decode cX7_lazy 0 = .ok (.aload_n 0, 1) := by decide +kernel
theorem dX7_lazy_1 : decode cX7_lazy 1 = .ok (.iload_n 1, 1) := by decide +kernel
theorem dX7_lazy_2 : decode cX7_lazy 2 = .ok (.invokevirtual 407, 3) := by decide +kernel
theorem dX7_lazy_5 : decode cX7_lazy 5 = .ok (.ifCond .eq 20, 3) := by decide +kernel
theorem dX7_lazy_25 : decode cX7_lazy 25 = .ok (.bipush (-2), 2) := by decide +kernel
theorem dX7_lazy_27 : decode cX7_lazy 27 = .ok (.ireturn, 1) := by decide +kernel
theorem dX7_isKey_0 : decode cX7_isKey 0 = .ok (.iload_n 1, 1) := by decide +kernel
theorem dX7_isKey_1 : decode cX7_isKey 1 = .ok (.iconst 0, 1) := by decide +kernel
theorem dX7_isKey_2 : decode cX7_isKey 2 = .ok (.aload_n 0, 1) := by decide +kernel
theorem dX7_isKey_3 : decode cX7_isKey 3 = .ok (.getfield 27, 3) := by decide +kernel
theorem dX7_isKey_6 : decode cX7_isKey 6 = .ok (.aload_n 0, 1) := by decide +kernel
theorem dX7_isKey_7 : decode cX7_isKey 7 = .ok (.getfield 214, 3) := by decide +kernel
theorem dX7_isKey_10 : decode cX7_isKey 10 = .ok (.iaload, 1) := by decide +kernel
theorem dX7_isKey_11 : decode cX7_isKey 11 = .ok (.iconst 1, 1) := by decide +kernel
theorem dX7_isKey_12 : decode cX7_isKey 12 = .ok (.isub, 1) := by decide +kernel
theorem dX7_isKey_13 : decode cX7_isKey 13 = .ok (.invokestatic 316, 3) := by decide +kernel
theorem dX7_isKey_16 : decode cX7_isKey 16 = .ok (.ireturn, 1) := by decide +kernel
theorem dX7_askers_0 : decode cX7_askers 0 = .ok (.aload_n 0, 1) := by decide +kernel
theorem dX7_askers_1 : decode cX7_askers 1 = .ok (.iload_n 1, 1) := by decide +kernel
theorem dX7_askers_2 : decode cX7_askers 2 = .ok (.invokevirtual 438, 3) := by decide +kernel
theorem dX7_askers_5 : decode cX7_askers 5 = .ok (.ifCond .ne 5, 3) := by decide +kernel
theorem dX7_askers_8 : decode cX7_askers 8 = .ok (.iconst (-1), 1) := by decide +kernel
theorem dX7_askers_9 : decode cX7_askers 9 = .ok (.ireturn, 1) := by decide +kernel
theorem dX7_stale_0 : decode cX7_stale 0 = .ok (.aload_n 0, 1) := by decide +kernel
theorem dX7_stale_1 : decode cX7_stale 1 = .ok (.iload_n 1, 1) := by decide +kernel
theorem dX7_stale_2 : decode cX7_stale 2 = .ok (.invokevirtual 438, 3) := by decide +kernel
theorem dX7_stale_5 : decode cX7_stale 5 = .ok (.ifCond .ne 5, 3) := by decide +kernel
theorem dX7_stale_8 : decode cX7_stale 8 = .ok (.iconst (-1), 1) := by decide +kernel
theorem dX7_stale_9 : decode cX7_stale 9 = .ok (.ireturn, 1) := by decide +kernel
theorem dX7_versions_0 : decode cX7_versions 0 = .ok (.aload_n 0, 1) := by decide +kernel
theorem dX7_versions_1 : decode cX7_versions 1 = .ok (.iload_n 1, 1) := by decide +kernel
theorem dX7_versions_2 : decode cX7_versions 2 = .ok (.invokevirtual 407, 3) := by decide +kernel
theorem dX7_versions_5 : decode cX7_versions 5 = .ok (.ifCond .eq 21, 3) := by decide +kernel
theorem dX7_versions_26 : decode cX7_versions 26 = .ok (.iconst (-1), 1) := by decide +kernel
theorem dX7_versions_27 : decode cX7_versions 27 = .ok (.ireturn, 1) := by decide +kernel
theorem dX7_version_0 : decode cX7_version 0 = .ok (.aload_n 0, 1) := by decide +kernel
theorem dX7_version_1 : decode cX7_version 1 = .ok (.iload_n 1, 1) := by decide +kernel
theorem dX7_version_2 : decode cX7_version 2 = .ok (.invokevirtual 407, 3) := by decide +kernel
theorem dX7_version_5 : decode cX7_version 5 = .ok (.ifCond .eq 25, 3) := by decide +kernel
theorem dX7_version_30 : decode cX7_version 30 = .ok (.iconst (-1), 1) := by decide +kernel
theorem dX7_version_31 : decode cX7_version 31 = .ok (.ireturn, 1) := by decide +kernel
theorem dX7_isIn_10 : decode cX7_isIn 10 = .ok (.iconst 1, 1) := by decide +kernel
theorem dX7_isIn_11 : decode cX7_isIn 11 = .ok (.goto 4, 3) := by decide +kernel
theorem dX7_will_0 : decode cX7_will 0 = .ok (.iload_n 1, 1) := by decide +kernel
theorem dX7_will_1 : decode cX7_will 1 = .ok (.iconst 0, 1) := by decide +kernel
theorem dX7_will_2 : decode cX7_will 2 = .ok (.bipush 60, 2) := by decide +kernel
theorem dX7_will_4 : decode cX7_will 4 = .ok (.invokestatic 316, 3) := by decide +kernel
theorem dX7_will_7 : decode cX7_will 7 = .ok (.ifCond .eq 19, 3) := by decide +kernel
theorem dX7_will_26 : decode cX7_will 26 = .ok (.iconst (-1), 1) := by decide +kernel
theorem dX7_will_27 : decode cX7_will 27 = .ok (.ireturn, 1) := by decide +kernel
theorem dX7_will_10 : decode cX7_will 10 = .ok (.iload_n 2, 1) := by decide +kernel
theorem dX7_will_11 : decode cX7_will 11 = .ok (.iconst 0, 1) := by decide +kernel
theorem dX7_will_12 : decode cX7_will 12 = .ok (.iconst 1, 1) := by decide +kernel
theorem dX7_will_13 : decode cX7_will 13 = .ok (.invokestatic 316, 3) := by decide +kernel
theorem dX7_will_16 : decode cX7_will 16 = .ok (.ifCond .eq 10, 3) := by decide +kernel
theorem dX7_will_19 : decode cX7_will 19 = .ok (.aload_n 0, 1) := by decide +kernel
theorem dX7_will_20 : decode cX7_will 20 = .ok (.invokevirtual 313, 3) := by decide +kernel
theorem dX7_will_23 : decode cX7_will 23 = .ok (.ifCond .ne 5, 3) := by decide +kernel
theorem dX7_when_0 : decode cX7_when 0 = .ok (.aload_n 0, 1) := by decide +kernel
theorem dX7_when_1 : decode cX7_when 1 = .ok (.invokevirtual 313, 3) := by decide +kernel
theorem dX7_when_4 : decode cX7_when 4 = .ok (.ifCond .eq 16, 3) := by decide +kernel
theorem dX7_when_20 : decode cX7_when 20 = .ok (.iconst (-1), 1) := by decide +kernel
theorem dX7_when_21 : decode cX7_when 21 = .ok (.ireturn, 1) := by decide +kernel
theorem dX7_keepNow_0 : decode cX7_keepNow 0 = .ok (.iconst 0, 1) := by decide +kernel
theorem dX7_keepNow_1 : decode cX7_keepNow 1 = .ok (.istore_n 1, 1) := by decide +kernel
theorem dX7_keepNow_2 : decode cX7_keepNow 2 = .ok (.iload_n 1, 1) := by decide +kernel
theorem dX7_keepNow_3 : decode cX7_keepNow 3 = .ok (.sipush 520, 3) := by decide +kernel
theorem dX7_keepNow_6 : decode cX7_keepNow 6 = .ok (.if_icmp .ge 21, 3) := by decide +kernel
theorem dX7_keepNow_27 : decode cX7_keepNow 27 = .ok (.return_, 1) := by decide +kernel
theorem dX7_keepNow_9 : decode cX7_keepNow 9 = .ok (.aload_n 0, 1) := by decide +kernel
theorem dX7_keepNow_10 : decode cX7_keepNow 10 = .ok (.getfield 79, 3) := by decide +kernel
theorem dX7_keepNow_13 : decode cX7_keepNow 13 = .ok (.iload_n 1, 1) := by decide +kernel
theorem dX7_keepNow_14 : decode cX7_keepNow 14 = .ok (.aload_n 0, 1) := by decide +kernel
theorem dX7_keepNow_15 : decode cX7_keepNow 15 = .ok (.getfield 76, 3) := by decide +kernel
theorem dX7_keepNow_18 : decode cX7_keepNow 18 = .ok (.iload_n 1, 1) := by decide +kernel
theorem dX7_keepNow_19 : decode cX7_keepNow 19 = .ok (.iaload, 1) := by decide +kernel
theorem dX7_keepNow_20 : decode cX7_keepNow 20 = .ok (.iastore, 1) := by decide +kernel
theorem dX7_keepNow_21 : decode cX7_keepNow 21 = .ok (.iinc 1 1, 3) := by decide +kernel
theorem dX7_keepNow_24 : decode cX7_keepNow 24 = .ok (.goto (-22), 3) := by decide +kernel
theorem dX7_traffic_0 : decode cX7_traffic 0 = .ok (.iconst 0, 1) := by decide +kernel
theorem dX7_traffic_1 : decode cX7_traffic 1 = .ok (.istore_n 1, 1) := by decide +kernel
theorem dX7_traffic_2 : decode cX7_traffic 2 = .ok (.iconst 0, 1) := by decide +kernel
theorem dX7_traffic_3 : decode cX7_traffic 3 = .ok (.istore_n 2, 1) := by decide +kernel
theorem dX7_traffic_4 : decode cX7_traffic 4 = .ok (.iload_n 2, 1) := by decide +kernel
theorem dX7_traffic_5 : decode cX7_traffic 5 = .ok (.iconst 1, 1) := by decide +kernel
theorem dX7_traffic_6 : decode cX7_traffic 6 = .ok (.iadd, 1) := by decide +kernel
theorem dX7_traffic_7 : decode cX7_traffic 7 = .ok (.aload_n 0, 1) := by decide +kernel
theorem dX7_traffic_8 : decode cX7_traffic 8 = .ok (.invokevirtual 313, 3) := by decide +kernel
theorem dX7_traffic_11 : decode cX7_traffic 11 = .ok (.if_icmp .ge 25, 3) := by decide +kernel
theorem dX7_traffic_36 : decode cX7_traffic 36 = .ok (.iload_n 1, 1) := by decide +kernel
theorem dX7_traffic_37 : decode cX7_traffic 37 = .ok (.ireturn, 1) := by decide +kernel
theorem dX7_bringBack_0 : decode cX7_bringBack 0 = .ok (.iconst 0, 1) := by decide +kernel
theorem dX7_bringBack_1 : decode cX7_bringBack 1 = .ok (.istore_n 1, 1) := by decide +kernel
theorem dX7_bringBack_2 : decode cX7_bringBack 2 = .ok (.iload_n 1, 1) := by decide +kernel
theorem dX7_bringBack_3 : decode cX7_bringBack 3 = .ok (.sipush 520, 3) := by decide +kernel
theorem dX7_bringBack_6 : decode cX7_bringBack 6 = .ok (.if_icmp .ge 21, 3) := by decide +kernel
theorem dX7_bringBack_27 : decode cX7_bringBack 27 = .ok (.return_, 1) := by decide +kernel
theorem dX7_bringBack_9 : decode cX7_bringBack 9 = .ok (.aload_n 0, 1) := by decide +kernel
theorem dX7_bringBack_10 : decode cX7_bringBack 10 = .ok (.getfield 76, 3) := by decide +kernel
theorem dX7_bringBack_13 : decode cX7_bringBack 13 = .ok (.iload_n 1, 1) := by decide +kernel
theorem dX7_bringBack_14 : decode cX7_bringBack 14 = .ok (.aload_n 0, 1) := by decide +kernel
theorem dX7_bringBack_15 : decode cX7_bringBack 15 = .ok (.getfield 79, 3) := by decide +kernel
theorem dX7_bringBack_18 : decode cX7_bringBack 18 = .ok (.iload_n 1, 1) := by decide +kernel
theorem dX7_bringBack_19 : decode cX7_bringBack 19 = .ok (.iaload, 1) := by decide +kernel
theorem dX7_bringBack_20 : decode cX7_bringBack 20 = .ok (.iastore, 1) := by decide +kernel
theorem dX7_bringBack_21 : decode cX7_bringBack 21 = .ok (.iinc 1 1, 3) := by decide +kernel
theorem dX7_bringBack_24 : decode cX7_bringBack 24 = .ok (.goto (-22), 3) := by decide +kernel
theorem dX7_still_0 : decode cX7_still 0 = .ok (.aload_n 0, 1) := by decide +kernel
theorem dX7_still_1 : decode cX7_still 1 = .ok (.invokevirtual 410, 3) := by decide +kernel
theorem dX7_still_4 : decode cX7_still 4 = .ok (.iconst 0, 1) := by decide +kernel
theorem dX7_still_5 : decode cX7_still 5 = .ok (.istore_n 1, 1) := by decide +kernel
theorem dX7_still_6 : decode cX7_still 6 = .ok (.iload_n 1, 1) := by decide +kernel
theorem dX7_still_7 : decode cX7_still 7 = .ok (.sipush 400, 3) := by decide +kernel
theorem dX7_still_10 : decode cX7_still 10 = .ok (.if_icmp .ge 34, 3) := by decide +kernel
theorem dX7_still_13 : decode cX7_still 13 = .ok (.aload_n 0, 1) := by decide +kernel
theorem dX7_still_14 : decode cX7_still 14 = .ok (.invokevirtual 413, 3) := by decide +kernel
theorem dX7_still_17 : decode cX7_still 17 = .ok (.ifCond .gt 13, 3) := by decide +kernel
theorem dX7_still_20 : decode cX7_still 20 = .ok (.aload_n 0, 1) := by decide +kernel
theorem dX7_still_21 : decode cX7_still 21 = .ok (.getfield 76, 3) := by decide +kernel
theorem dX7_still_24 : decode cX7_still 24 = .ok (.bipush 105, 2) := by decide +kernel
theorem dX7_still_26 : decode cX7_still 26 = .ok (.iaload, 1) := by decide +kernel
theorem dX7_still_27 : decode cX7_still 27 = .ok (.ifCond .lt 17, 3) := by decide +kernel
theorem dX7_still_44 : decode cX7_still 44 = .ok (.aload_n 0, 1) := by decide +kernel
theorem dX7_still_45 : decode cX7_still 45 = .ok (.invokevirtual 416, 3) := by decide +kernel
theorem dX7_still_48 : decode cX7_still 48 = .ok (.iload_n 1, 1) := by decide +kernel
theorem dX7_still_49 : decode cX7_still 49 = .ok (.ireturn, 1) := by decide +kernel
theorem dX7_atLeast_0 : decode cX7_atLeast 0 = .ok (.iconst 0, 1) := by decide +kernel
theorem dX7_atLeast_1 : decode cX7_atLeast 1 = .ok (.istore_n 3, 1) := by decide +kernel
theorem dX7_atLeast_2 : decode cX7_atLeast 2 = .ok (.iconst 0, 1) := by decide +kernel
theorem dX7_atLeast_3 : decode cX7_atLeast 3 = .ok (.istore 4, 2) := by decide +kernel
theorem dX7_atLeast_5 : decode cX7_atLeast 5 = .ok (.iload 4, 2) := by decide +kernel
theorem dX7_atLeast_7 : decode cX7_atLeast 7 = .ok (.aload_n 0, 1) := by decide +kernel
theorem dX7_atLeast_8 : decode cX7_atLeast 8 = .ok (.invokevirtual 313, 3) := by decide +kernel
theorem dX7_atLeast_11 : decode cX7_atLeast 11 = .ok (.if_icmp .ge 37, 3) := by decide +kernel
theorem dX7_atLeast_48 : decode cX7_atLeast 48 = .ok (.iload_n 3, 1) := by decide +kernel
theorem dX7_atLeast_49 : decode cX7_atLeast 49 = .ok (.ireturn, 1) := by decide +kernel
theorem dX7_membersSet_0 : decode cX7_membersSet 0 = .ok (.aload_n 0, 1) := by decide +kernel
theorem dX7_membersSet_1 : decode cX7_membersSet 1 = .ok (.bipush 7, 2) := by decide +kernel
theorem dX7_membersSet_3 : decode cX7_membersSet 3 = .ok (.iconst 0, 1) := by decide +kernel
theorem dX7_membersSet_4 : decode cX7_membersSet 4 = .ok (.invokevirtual 404, 3) := by decide +kernel
theorem dX7_membersSet_7 : decode cX7_membersSet 7 = .ok (.ireturn, 1) := by decide +kernel
theorem dX7_drops_0 : decode cX7_drops 0 = .ok (.iload_n 1, 1) := by decide +kernel
theorem dX7_drops_1 : decode cX7_drops 1 = .ok (.aload_n 0, 1) := by decide +kernel
theorem dX7_drops_2 : decode cX7_drops 2 = .ok (.invokevirtual 462, 3) := by decide +kernel
theorem dX7_drops_5 : decode cX7_drops 5 = .ok (.iconst (-1), 1) := by decide +kernel
theorem dX7_drops_6 : decode cX7_drops 6 = .ok (.ixor, 1) := by decide +kernel
theorem dX7_drops_7 : decode cX7_drops 7 = .ok (.iand, 1) := by decide +kernel
theorem dX7_drops_8 : decode cX7_drops 8 = .ok (.ifCond .ne 25, 3) := by decide +kernel
theorem dX7_drops_33 : decode cX7_drops 33 = .ok (.iconst (-1), 1) := by decide +kernel
theorem dX7_drops_34 : decode cX7_drops 34 = .ok (.ireturn, 1) := by decide +kernel
theorem dX7_drops_11 : decode cX7_drops 11 = .ok (.iload_n 1, 1) := by decide +kernel
theorem dX7_drops_12 : decode cX7_drops 12 = .ok (.aload_n 0, 1) := by decide +kernel
theorem dX7_drops_13 : decode cX7_drops 13 = .ok (.invokevirtual 462, 3) := by decide +kernel
theorem dX7_drops_16 : decode cX7_drops 16 = .ok (.if_icmp .eq 17, 3) := by decide +kernel
theorem dX7_worst_0 : decode cX7_worst 0 = .ok (.iload_n 1, 1) := by decide +kernel
theorem dX7_worst_1 : decode cX7_worst 1 = .ok (.iconst 1, 1) := by decide +kernel
theorem dX7_worst_2 : decode cX7_worst 2 = .ok (.iconst 5, 1) := by decide +kernel
theorem dX7_worst_3 : decode cX7_worst 3 = .ok (.invokestatic 316, 3) := by decide +kernel
theorem dX7_worst_6 : decode cX7_worst 6 = .ok (.ifCond .eq 20, 3) := by decide +kernel
theorem dX7_worst_26 : decode cX7_worst 26 = .ok (.iconst (-1), 1) := by decide +kernel
theorem dX7_worst_27 : decode cX7_worst 27 = .ok (.ireturn, 1) := by decide +kernel
theorem dX7_worst_9 : decode cX7_worst 9 = .ok (.iload_n 2, 1) := by decide +kernel
theorem dX7_worst_10 : decode cX7_worst 10 = .ok (.iconst 0, 1) := by decide +kernel
theorem dX7_worst_11 : decode cX7_worst 11 = .ok (.iconst 1, 1) := by decide +kernel
theorem dX7_worst_12 : decode cX7_worst 12 = .ok (.invokestatic 316, 3) := by decide +kernel
theorem dX7_worst_15 : decode cX7_worst 15 = .ok (.ifCond .eq 11, 3) := by decide +kernel
theorem dX7_worst_18 : decode cX7_worst 18 = .ok (.iload_n 1, 1) := by decide +kernel
theorem dX7_worst_19 : decode cX7_worst 19 = .ok (.aload_n 0, 1) := by decide +kernel
theorem dX7_worst_20 : decode cX7_worst 20 = .ok (.invokevirtual 313, 3) := by decide +kernel
theorem dX7_worst_23 : decode cX7_worst 23 = .ok (.if_icmp .lt 5, 3) := by decide +kernel
theorem dX7_safe_0 : decode cX7_safe 0 = .ok (.aload_n 0, 1) := by decide +kernel
theorem dX7_safe_1 : decode cX7_safe 1 = .ok (.invokevirtual 313, 3) := by decide +kernel
theorem dX7_safe_4 : decode cX7_safe 4 = .ok (.ifCond .ne 5, 3) := by decide +kernel
theorem dX7_safe_7 : decode cX7_safe 7 = .ok (.iconst (-1), 1) := by decide +kernel
theorem dX7_safe_8 : decode cX7_safe 8 = .ok (.ireturn, 1) := by decide +kernel
theorem dX7_answered_0 : decode cX7_answered 0 = .ok (.aload_n 0, 1) := by decide +kernel
theorem dX7_answered_1 : decode cX7_answered 1 = .ok (.invokevirtual 313, 3) := by decide +kernel
theorem dX7_answered_4 : decode cX7_answered 4 = .ok (.ifCond .ne 7, 3) := by decide +kernel
theorem dX7_answered_7 : decode cX7_answered 7 = .ok (.iconst (-1), 1) := by decide +kernel
theorem dX7_answered_8 : decode cX7_answered 8 = .ok (.goto 8, 3) := by decide +kernel
theorem dX7_answered_16 : decode cX7_answered 16 = .ok (.ireturn, 1) := by decide +kernel
theorem dX7_soonest_0 : decode cX7_soonest 0 = .ok (.aload_n 0, 1) := by decide +kernel
theorem dX7_soonest_1 : decode cX7_soonest 1 = .ok (.iconst 0, 1) := by decide +kernel
theorem dX7_soonest_2 : decode cX7_soonest 2 = .ok (.putfield 338, 3) := by decide +kernel
theorem dX7_soonest_5 : decode cX7_soonest 5 = .ok (.aload_n 0, 1) := by decide +kernel
theorem dX7_soonest_6 : decode cX7_soonest 6 = .ok (.invokevirtual 313, 3) := by decide +kernel
theorem dX7_soonest_9 : decode cX7_soonest 9 = .ok (.istore_n 1, 1) := by decide +kernel
theorem dX7_soonest_10 : decode cX7_soonest 10 = .ok (.iload_n 1, 1) := by decide +kernel
theorem dX7_soonest_11 : decode cX7_soonest 11 = .ok (.ifCond .ne 5, 3) := by decide +kernel
theorem dX7_soonest_14 : decode cX7_soonest 14 = .ok (.iconst (-1), 1) := by decide +kernel
theorem dX7_soonest_15 : decode cX7_soonest 15 = .ok (.ireturn, 1) := by decide +kernel
theorem dX7_weed_0 : decode cX7_weed 0 = .ok (.iload_n 1, 1) := by decide +kernel
theorem dX7_weed_1 : decode cX7_weed 1 = .ok (.iconst 0, 1) := by decide +kernel
theorem dX7_weed_2 : decode cX7_weed 2 = .ok (.iconst 1, 1) := by decide +kernel
theorem dX7_weed_3 : decode cX7_weed 3 = .ok (.invokestatic 316, 3) := by decide +kernel
theorem dX7_weed_6 : decode cX7_weed 6 = .ok (.ifCond .eq 11, 3) := by decide +kernel
theorem dX7_weed_17 : decode cX7_weed 17 = .ok (.iconst (-1), 1) := by decide +kernel
theorem dX7_weed_18 : decode cX7_weed 18 = .ok (.ireturn, 1) := by decide +kernel
theorem dX7_weed_9 : decode cX7_weed 9 = .ok (.aload_n 0, 1) := by decide +kernel
theorem dX7_weed_10 : decode cX7_weed 10 = .ok (.invokevirtual 313, 3) := by decide +kernel
theorem dX7_weed_13 : decode cX7_weed 13 = .ok (.iconst 2, 1) := by decide +kernel
theorem dX7_weed_14 : decode cX7_weed 14 = .ok (.if_icmp .ge 5, 3) := by decide +kernel
theorem dX7_fullest_0 : decode cX7_fullest 0 = .ok (.iconst (-1), 1) := by decide +kernel
theorem dX7_fullest_1 : decode cX7_fullest 1 = .ok (.istore_n 1, 1) := by decide +kernel
theorem dX7_fullest_2 : decode cX7_fullest 2 = .ok (.iconst (-1), 1) := by decide +kernel
theorem dX7_fullest_3 : decode cX7_fullest 3 = .ok (.istore_n 2, 1) := by decide +kernel
theorem dX7_fullest_4 : decode cX7_fullest 4 = .ok (.iconst 0, 1) := by decide +kernel
theorem dX7_fullest_5 : decode cX7_fullest 5 = .ok (.istore_n 3, 1) := by decide +kernel
theorem dX7_fullest_6 : decode cX7_fullest 6 = .ok (.iload_n 3, 1) := by decide +kernel
theorem dX7_fullest_7 : decode cX7_fullest 7 = .ok (.iconst 1, 1) := by decide +kernel
theorem dX7_fullest_8 : decode cX7_fullest 8 = .ok (.iadd, 1) := by decide +kernel
theorem dX7_fullest_9 : decode cX7_fullest 9 = .ok (.aload_n 0, 1) := by decide +kernel
theorem dX7_fullest_10 : decode cX7_fullest 10 = .ok (.invokevirtual 313, 3) := by decide +kernel
theorem dX7_fullest_13 : decode cX7_fullest 13 = .ok (.if_icmp .ge 38, 3) := by decide +kernel
theorem dX7_fullest_51 : decode cX7_fullest 51 = .ok (.iload_n 1, 1) := by decide +kernel
theorem dX7_fullest_52 : decode cX7_fullest 52 = .ok (.ireturn, 1) := by decide +kernel
theorem dX7_canWrite_0 : decode cX7_canWrite 0 = .ok (.aload_n 0, 1) := by decide +kernel
theorem dX7_canWrite_1 : decode cX7_canWrite 1 = .ok (.invokevirtual 313, 3) := by decide +kernel
theorem dX7_canWrite_4 : decode cX7_canWrite 4 = .ok (.ifCond .le 17, 3) := by decide +kernel
theorem dX7_canWrite_21 : decode cX7_canWrite 21 = .ok (.iconst 0, 1) := by decide +kernel
theorem dX7_canWrite_22 : decode cX7_canWrite 22 = .ok (.ireturn, 1) := by decide +kernel
theorem dX7_trip_0 : decode cX7_trip 0 = .ok (.aload_n 0, 1) := by decide +kernel
theorem dX7_trip_1 : decode cX7_trip 1 = .ok (.invokevirtual 456, 3) := by decide +kernel
theorem dX7_trip_4 : decode cX7_trip 4 = .ok (.ifCond .eq 11, 3) := by decide +kernel
theorem dX7_trip_15 : decode cX7_trip 15 = .ok (.iconst (-1), 1) := by decide +kernel
theorem dX7_trip_16 : decode cX7_trip 16 = .ok (.ireturn, 1) := by decide +kernel
theorem dX7_without_0 : decode cX7_without 0 = .ok (.aload_n 0, 1) := by decide +kernel
theorem dX7_without_1 : decode cX7_without 1 = .ok (.invokevirtual 456, 3) := by decide +kernel
theorem dX7_without_4 : decode cX7_without 4 = .ok (.ifCond .eq 27, 3) := by decide +kernel
theorem dX7_without_31 : decode cX7_without 31 = .ok (.iconst (-1), 1) := by decide +kernel
theorem dX7_without_32 : decode cX7_without 32 = .ok (.ireturn, 1) := by decide +kernel
theorem dX7_latest_0 : decode cX7_latest 0 = .ok (.aload_n 0, 1) := by decide +kernel
theorem dX7_latest_1 : decode cX7_latest 1 = .ok (.iload_n 1, 1) := by decide +kernel
theorem dX7_latest_2 : decode cX7_latest 2 = .ok (.invokevirtual 438, 3) := by decide +kernel
theorem dX7_latest_5 : decode cX7_latest 5 = .ok (.ifCond .eq 23, 3) := by decide +kernel
theorem dX7_latest_28 : decode cX7_latest 28 = .ok (.iconst (-1), 1) := by decide +kernel
theorem dX7_latest_29 : decode cX7_latest 29 = .ok (.ireturn, 1) := by decide +kernel
theorem dX7_lag_0 : decode cX7_lag 0 = .ok (.aload_n 0, 1) := by decide +kernel
theorem dX7_lag_1 : decode cX7_lag 1 = .ok (.iload_n 1, 1) := by decide +kernel
theorem dX7_lag_2 : decode cX7_lag 2 = .ok (.invokevirtual 407, 3) := by decide +kernel
theorem dX7_lag_5 : decode cX7_lag 5 = .ok (.ifCond .eq 21, 3) := by decide +kernel
theorem dX7_lag_26 : decode cX7_lag 26 = .ok (.iconst (-1), 1) := by decide +kernel
theorem dX7_lag_27 : decode cX7_lag 27 = .ok (.ireturn, 1) := by decide +kernel
theorem dX7_peak_0 : decode cX7_peak 0 = .ok (.iload_n 1, 1) := by decide +kernel
theorem dX7_peak_1 : decode cX7_peak 1 = .ok (.iconst 0, 1) := by decide +kernel
theorem dX7_peak_2 : decode cX7_peak 2 = .ok (.iconst 1, 1) := by decide +kernel
theorem dX7_peak_3 : decode cX7_peak 3 = .ok (.invokestatic 316, 3) := by decide +kernel
theorem dX7_peak_6 : decode cX7_peak 6 = .ok (.ifCond .eq 10, 3) := by decide +kernel
theorem dX7_peak_16 : decode cX7_peak 16 = .ok (.iconst (-1), 1) := by decide +kernel
theorem dX7_peak_17 : decode cX7_peak 17 = .ok (.ireturn, 1) := by decide +kernel
theorem dX7_peak_9 : decode cX7_peak 9 = .ok (.aload_n 0, 1) := by decide +kernel
theorem dX7_peak_10 : decode cX7_peak 10 = .ok (.invokevirtual 313, 3) := by decide +kernel
theorem dX7_peak_13 : decode cX7_peak 13 = .ok (.ifCond .ne 5, 3) := by decide +kernel
theorem dX7_dirtiest_0 : decode cX7_dirtiest 0 = .ok (.iload_n 1, 1) := by decide +kernel
theorem dX7_dirtiest_1 : decode cX7_dirtiest 1 = .ok (.iconst 0, 1) := by decide +kernel
theorem dX7_dirtiest_2 : decode cX7_dirtiest 2 = .ok (.iconst 2, 1) := by decide +kernel
theorem dX7_dirtiest_3 : decode cX7_dirtiest 3 = .ok (.invokestatic 316, 3) := by decide +kernel
theorem dX7_dirtiest_6 : decode cX7_dirtiest 6 = .ok (.ifCond .ne 5, 3) := by decide +kernel
theorem dX7_dirtiest_9 : decode cX7_dirtiest 9 = .ok (.iconst (-1), 1) := by decide +kernel
theorem dX7_dirtiest_10 : decode cX7_dirtiest 10 = .ok (.ireturn, 1) := by decide +kernel
theorem dX7_dirtiest_11 : decode cX7_dirtiest 11 = .ok (.iconst (-1), 1) := by decide +kernel
theorem dX7_dirtiest_12 : decode cX7_dirtiest 12 = .ok (.istore_n 2, 1) := by decide +kernel
theorem dX7_dirtiest_13 : decode cX7_dirtiest 13 = .ok (.iconst 0, 1) := by decide +kernel
theorem dX7_dirtiest_14 : decode cX7_dirtiest 14 = .ok (.istore_n 3, 1) := by decide +kernel
theorem dX7_dirtiest_15 : decode cX7_dirtiest 15 = .ok (.iconst 0, 1) := by decide +kernel
theorem dX7_dirtiest_16 : decode cX7_dirtiest 16 = .ok (.istore 4, 2) := by decide +kernel
theorem dX7_dirtiest_18 : decode cX7_dirtiest 18 = .ok (.iload 4, 2) := by decide +kernel
theorem dX7_dirtiest_20 : decode cX7_dirtiest 20 = .ok (.aload_n 0, 1) := by decide +kernel
theorem dX7_dirtiest_21 : decode cX7_dirtiest 21 = .ok (.invokevirtual 313, 3) := by decide +kernel
theorem dX7_dirtiest_24 : decode cX7_dirtiest 24 = .ok (.aload_n 0, 1) := by decide +kernel
theorem dX7_dirtiest_25 : decode cX7_dirtiest 25 = .ok (.getfield 27, 3) := by decide +kernel
theorem dX7_dirtiest_28 : decode cX7_dirtiest 28 = .ok (.aload_n 0, 1) := by decide +kernel
theorem dX7_dirtiest_29 : decode cX7_dirtiest 29 = .ok (.getfield 214, 3) := by decide +kernel
theorem dX7_dirtiest_32 : decode cX7_dirtiest 32 = .ok (.iaload, 1) := by decide +kernel
theorem dX7_dirtiest_33 : decode cX7_dirtiest 33 = .ok (.imul, 1) := by decide +kernel
theorem dX7_dirtiest_34 : decode cX7_dirtiest 34 = .ok (.if_icmp .ge 59, 3) := by decide +kernel
theorem dX7_dirtiest_93 : decode cX7_dirtiest 93 = .ok (.iload_n 2, 1) := by decide +kernel
theorem dX7_dirtiest_94 : decode cX7_dirtiest 94 = .ok (.ifCond .ge 7, 3) := by decide +kernel
theorem dX7_dirtiest_97 : decode cX7_dirtiest 97 = .ok (.iconst (-1), 1) := by decide +kernel
theorem dX7_dirtiest_98 : decode cX7_dirtiest 98 = .ok (.goto 45, 3) := by decide +kernel
theorem dX7_dirtiest_143 : decode cX7_dirtiest 143 = .ok (.ireturn, 1) := by decide +kernel
theorem dX7_soonestOf_0 : decode cX7_soonestOf 0 = .ok (.iload_n 1, 1) := by decide +kernel
theorem dX7_soonestOf_1 : decode cX7_soonestOf 1 = .ok (.iconst 0, 1) := by decide +kernel
theorem dX7_soonestOf_2 : decode cX7_soonestOf 2 = .ok (.iconst 2, 1) := by decide +kernel
theorem dX7_soonestOf_3 : decode cX7_soonestOf 3 = .ok (.invokestatic 316, 3) := by decide +kernel
theorem dX7_soonestOf_6 : decode cX7_soonestOf 6 = .ok (.ifCond .ne 5, 3) := by decide +kernel
theorem dX7_soonestOf_9 : decode cX7_soonestOf 9 = .ok (.iconst (-1), 1) := by decide +kernel
theorem dX7_soonestOf_10 : decode cX7_soonestOf 10 = .ok (.ireturn, 1) := by decide +kernel
theorem dX7_soonestOf_11 : decode cX7_soonestOf 11 = .ok (.iconst (-1), 1) := by decide +kernel
theorem dX7_soonestOf_12 : decode cX7_soonestOf 12 = .ok (.istore_n 2, 1) := by decide +kernel
theorem dX7_soonestOf_13 : decode cX7_soonestOf 13 = .ok (.ldc_w 422, 3) := by decide +kernel
theorem dX7_soonestOf_16 : decode cX7_soonestOf 16 = .ok (.istore_n 3, 1) := by decide +kernel
theorem dX7_soonestOf_17 : decode cX7_soonestOf 17 = .ok (.iconst 0, 1) := by decide +kernel
theorem dX7_soonestOf_18 : decode cX7_soonestOf 18 = .ok (.istore 4, 2) := by decide +kernel
theorem dX7_soonestOf_20 : decode cX7_soonestOf 20 = .ok (.iload 4, 2) := by decide +kernel
theorem dX7_soonestOf_22 : decode cX7_soonestOf 22 = .ok (.iconst 2, 1) := by decide +kernel
theorem dX7_soonestOf_23 : decode cX7_soonestOf 23 = .ok (.aload_n 0, 1) := by decide +kernel
theorem dX7_soonestOf_24 : decode cX7_soonestOf 24 = .ok (.invokevirtual 313, 3) := by decide +kernel
theorem dX7_soonestOf_27 : decode cX7_soonestOf 27 = .ok (.imul, 1) := by decide +kernel
theorem dX7_soonestOf_28 : decode cX7_soonestOf 28 = .ok (.iconst 2, 1) := by decide +kernel
theorem dX7_soonestOf_29 : decode cX7_soonestOf 29 = .ok (.isub, 1) := by decide +kernel
theorem dX7_soonestOf_30 : decode cX7_soonestOf 30 = .ok (.if_icmp .ge 43, 3) := by decide +kernel
theorem dX7_soonestOf_73 : decode cX7_soonestOf 73 = .ok (.iload_n 2, 1) := by decide +kernel
theorem dX7_soonestOf_74 : decode cX7_soonestOf 74 = .ok (.ifCond .ge 7, 3) := by decide +kernel
theorem dX7_soonestOf_77 : decode cX7_soonestOf 77 = .ok (.iconst (-1), 1) := by decide +kernel
theorem dX7_soonestOf_78 : decode cX7_soonestOf 78 = .ok (.goto 25, 3) := by decide +kernel
theorem dX7_soonestOf_103 : decode cX7_soonestOf 103 = .ok (.ireturn, 1) := by decide +kernel
theorem dX7_idle_0 : decode cX7_idle 0 = .ok (.iconst 0, 1) := by decide +kernel
theorem dX7_idle_1 : decode cX7_idle 1 = .ok (.istore_n 1, 1) := by decide +kernel
theorem dX7_idle_2 : decode cX7_idle 2 = .ok (.iconst 0, 1) := by decide +kernel
theorem dX7_idle_3 : decode cX7_idle 3 = .ok (.istore_n 2, 1) := by decide +kernel
theorem dX7_idle_4 : decode cX7_idle 4 = .ok (.iload_n 2, 1) := by decide +kernel
theorem dX7_idle_5 : decode cX7_idle 5 = .ok (.aload_n 0, 1) := by decide +kernel
theorem dX7_idle_6 : decode cX7_idle 6 = .ok (.getfield 20, 3) := by decide +kernel
theorem dX7_idle_9 : decode cX7_idle 9 = .ok (.aload_n 0, 1) := by decide +kernel
theorem dX7_idle_10 : decode cX7_idle 10 = .ok (.getfield 214, 3) := by decide +kernel
theorem dX7_idle_13 : decode cX7_idle 13 = .ok (.iaload, 1) := by decide +kernel
theorem dX7_idle_14 : decode cX7_idle 14 = .ok (.if_icmp .ge 23, 3) := by decide +kernel
theorem dX7_idle_37 : decode cX7_idle 37 = .ok (.iload_n 1, 1) := by decide +kernel
theorem dX7_idle_38 : decode cX7_idle 38 = .ok (.ireturn, 1) := by decide +kernel
theorem dX7_law_0 : decode cX7_law 0 = .ok (.aload_n 0, 1) := by decide +kernel
theorem dX7_law_1 : decode cX7_law 1 = .ok (.invokevirtual 456, 3) := by decide +kernel
theorem dX7_law_4 : decode cX7_law 4 = .ok (.ifCond .eq 13, 3) := by decide +kernel
theorem dX7_law_17 : decode cX7_law 17 = .ok (.iconst (-1), 1) := by decide +kernel
theorem dX7_law_18 : decode cX7_law 18 = .ok (.ireturn, 1) := by decide +kernel
theorem dX7_power_0 : decode cX7_power 0 = .ok (.iconst 1, 1) := by decide +kernel
theorem dX7_power_1 : decode cX7_power 1 = .ok (.istore_n 2, 1) := by decide +kernel
theorem dX7_power_2 : decode cX7_power 2 = .ok (.iconst 0, 1) := by decide +kernel
theorem dX7_power_3 : decode cX7_power 3 = .ok (.istore_n 3, 1) := by decide +kernel
theorem dX7_power_4 : decode cX7_power 4 = .ok (.iload_n 3, 1) := by decide +kernel
theorem dX7_power_5 : decode cX7_power 5 = .ok (.iload_n 1, 1) := by decide +kernel
theorem dX7_power_6 : decode cX7_power 6 = .ok (.if_icmp .ge 13, 3) := by decide +kernel
theorem dX7_power_19 : decode cX7_power 19 = .ok (.iload_n 2, 1) := by decide +kernel
theorem dX7_power_20 : decode cX7_power 20 = .ok (.ireturn, 1) := by decide +kernel
theorem dX7_divisor_0 : decode cX7_divisor 0 = .ok (.iload_n 0, 1) := by decide +kernel
theorem dX7_divisor_1 : decode cX7_divisor 1 = .ok (.istore_n 2, 1) := by decide +kernel
theorem dX7_divisor_2 : decode cX7_divisor 2 = .ok (.iload_n 1, 1) := by decide +kernel
theorem dX7_divisor_3 : decode cX7_divisor 3 = .ok (.istore_n 3, 1) := by decide +kernel
theorem dX7_divisor_4 : decode cX7_divisor 4 = .ok (.iload_n 3, 1) := by decide +kernel
theorem dX7_divisor_5 : decode cX7_divisor 5 = .ok (.ifCond .le 16, 3) := by decide +kernel
theorem dX7_divisor_8 : decode cX7_divisor 8 = .ok (.iload_n 2, 1) := by decide +kernel
theorem dX7_divisor_9 : decode cX7_divisor 9 = .ok (.iload_n 3, 1) := by decide +kernel
theorem dX7_divisor_10 : decode cX7_divisor 10 = .ok (.irem, 1) := by decide +kernel
theorem dX7_divisor_11 : decode cX7_divisor 11 = .ok (.istore 4, 2) := by decide +kernel
theorem dX7_divisor_13 : decode cX7_divisor 13 = .ok (.iload_n 3, 1) := by decide +kernel
theorem dX7_divisor_14 : decode cX7_divisor 14 = .ok (.istore_n 2, 1) := by decide +kernel
theorem dX7_divisor_15 : decode cX7_divisor 15 = .ok (.iload 4, 2) := by decide +kernel
theorem dX7_divisor_17 : decode cX7_divisor 17 = .ok (.istore_n 3, 1) := by decide +kernel
theorem dX7_divisor_18 : decode cX7_divisor 18 = .ok (.goto (-14), 3) := by decide +kernel
theorem dX7_divisor_21 : decode cX7_divisor 21 = .ok (.iload_n 2, 1) := by decide +kernel
theorem dX7_divisor_22 : decode cX7_divisor 22 = .ok (.ireturn, 1) := by decide +kernel
theorem dX7_power_9 : decode cX7_power 9 = .ok (.iload_n 2, 1) := by decide +kernel
theorem dX7_power_10 : decode cX7_power 10 = .ok (.iload_n 0, 1) := by decide +kernel
theorem dX7_power_11 : decode cX7_power 11 = .ok (.imul, 1) := by decide +kernel
theorem dX7_power_12 : decode cX7_power 12 = .ok (.istore_n 2, 1) := by decide +kernel
theorem dX7_power_13 : decode cX7_power 13 = .ok (.iinc 3 1, 3) := by decide +kernel
theorem dX7_power_16 : decode cX7_power 16 = .ok (.goto (-12), 3) := by decide +kernel
theorem dX7_odds_0 : decode cX7_odds 0 = .ok (.iload_n 1, 1) := by decide +kernel
theorem dX7_odds_1 : decode cX7_odds 1 = .ok (.iconst 0, 1) := by decide +kernel
theorem dX7_odds_2 : decode cX7_odds 2 = .ok (.iconst 4, 1) := by decide +kernel
theorem dX7_odds_3 : decode cX7_odds 3 = .ok (.invokestatic 316, 3) := by decide +kernel
theorem dX7_odds_6 : decode cX7_odds 6 = .ok (.ifCond .eq 12, 3) := by decide +kernel
theorem dX7_odds_9 : decode cX7_odds 9 = .ok (.iload_n 2, 1) := by decide +kernel
theorem dX7_odds_10 : decode cX7_odds 10 = .ok (.iconst 0, 1) := by decide +kernel
theorem dX7_odds_11 : decode cX7_odds 11 = .ok (.iconst 1, 1) := by decide +kernel
theorem dX7_odds_12 : decode cX7_odds 12 = .ok (.invokestatic 316, 3) := by decide +kernel
theorem dX7_odds_15 : decode cX7_odds 15 = .ok (.ifCond .ne 5, 3) := by decide +kernel
theorem dX7_odds_18 : decode cX7_odds 18 = .ok (.iconst (-1), 1) := by decide +kernel
theorem dX7_odds_19 : decode cX7_odds 19 = .ok (.ireturn, 1) := by decide +kernel
theorem dX7_odds_20 : decode cX7_odds 20 = .ok (.bipush 100, 2) := by decide +kernel
theorem dX7_odds_22 : decode cX7_odds 22 = .ok (.aload_n 0, 1) := by decide +kernel
theorem dX7_odds_23 : decode cX7_odds 23 = .ok (.getfield 36, 3) := by decide +kernel
theorem dX7_odds_26 : decode cX7_odds 26 = .ok (.aload_n 0, 1) := by decide +kernel
theorem dX7_odds_27 : decode cX7_odds 27 = .ok (.getfield 214, 3) := by decide +kernel
theorem dX7_odds_30 : decode cX7_odds 30 = .ok (.iaload, 1) := by decide +kernel
theorem dX7_odds_31 : decode cX7_odds 31 = .ok (.isub, 1) := by decide +kernel
theorem dX7_odds_32 : decode cX7_odds 32 = .ok (.iload_n 1, 1) := by decide +kernel
theorem dX7_odds_33 : decode cX7_odds 33 = .ok (.invokestatic 480, 3) := by decide +kernel
theorem dX7_odds_36 : decode cX7_odds 36 = .ok (.istore_n 3, 1) := by decide +kernel
theorem dX7_odds_37 : decode cX7_odds 37 = .ok (.bipush 100, 2) := by decide +kernel
theorem dX7_odds_39 : decode cX7_odds 39 = .ok (.iload_n 1, 1) := by decide +kernel
theorem dX7_odds_40 : decode cX7_odds 40 = .ok (.invokestatic 480, 3) := by decide +kernel
theorem dX7_odds_43 : decode cX7_odds 43 = .ok (.istore 4, 2) := by decide +kernel
theorem dX7_odds_45 : decode cX7_odds 45 = .ok (.iload_n 2, 1) := by decide +kernel
theorem dX7_odds_46 : decode cX7_odds 46 = .ok (.ifCond .ne 7, 3) := by decide +kernel
theorem dX7_odds_53 : decode cX7_odds 53 = .ok (.iload 4, 2) := by decide +kernel
theorem dX7_odds_55 : decode cX7_odds 55 = .ok (.iload 4, 2) := by decide +kernel
theorem dX7_odds_57 : decode cX7_odds 57 = .ok (.iload_n 3, 1) := by decide +kernel
theorem dX7_odds_58 : decode cX7_odds 58 = .ok (.invokestatic 483, 3) := by decide +kernel
theorem dX7_odds_61 : decode cX7_odds 61 = .ok (.idiv, 1) := by decide +kernel
theorem dX7_odds_62 : decode cX7_odds 62 = .ok (.ireturn, 1) := by decide +kernel
theorem dX7_odds_49 : decode cX7_odds 49 = .ok (.iload_n 3, 1) := by decide +kernel
theorem dX7_odds_50 : decode cX7_odds 50 = .ok (.goto 5, 3) := by decide +kernel
theorem dX7_lies_0 : decode cX7_lies 0 = .ok (.iload_n 1, 1) := by decide +kernel
theorem dX7_lies_1 : decode cX7_lies 1 = .ok (.iconst 0, 1) := by decide +kernel
theorem dX7_lies_2 : decode cX7_lies 2 = .ok (.aload_n 0, 1) := by decide +kernel
theorem dX7_lies_3 : decode cX7_lies 3 = .ok (.getfield 338, 3) := by decide +kernel
theorem dX7_lies_6 : decode cX7_lies 6 = .ok (.iconst 1, 1) := by decide +kernel
theorem dX7_lies_7 : decode cX7_lies 7 = .ok (.isub, 1) := by decide +kernel
theorem dX7_lies_8 : decode cX7_lies 8 = .ok (.invokestatic 316, 3) := by decide +kernel
theorem dX7_lies_11 : decode cX7_lies 11 = .ok (.ifCond .eq 12, 3) := by decide +kernel
theorem dX7_lies_23 : decode cX7_lies 23 = .ok (.bipush (-2), 2) := by decide +kernel
theorem dX7_lies_25 : decode cX7_lies 25 = .ok (.ireturn, 1) := by decide +kernel
theorem dX7_seen_0 : decode cX7_seen 0 = .ok (.iload_n 1, 1) := by decide +kernel
theorem dX7_seen_1 : decode cX7_seen 1 = .ok (.iconst 0, 1) := by decide +kernel
theorem dX7_seen_2 : decode cX7_seen 2 = .ok (.bipush 60, 2) := by decide +kernel
theorem dX7_seen_4 : decode cX7_seen 4 = .ok (.invokestatic 316, 3) := by decide +kernel
theorem dX7_seen_7 : decode cX7_seen 7 = .ok (.ifCond .eq 24, 3) := by decide +kernel
theorem dX7_seen_31 : decode cX7_seen 31 = .ok (.iconst (-1), 1) := by decide +kernel
theorem dX7_seen_32 : decode cX7_seen 32 = .ok (.ireturn, 1) := by decide +kernel
theorem dX7_seen_10 : decode cX7_seen 10 = .ok (.aload_n 0, 1) := by decide +kernel
theorem dX7_seen_11 : decode cX7_seen 11 = .ok (.getfield 335, 3) := by decide +kernel
theorem dX7_seen_14 : decode cX7_seen 14 = .ok (.bipush 30, 2) := by decide +kernel
theorem dX7_seen_16 : decode cX7_seen 16 = .ok (.if_icmp .eq 15, 3) := by decide +kernel
theorem dX7_seen_19 : decode cX7_seen 19 = .ok (.aload_n 0, 1) := by decide +kernel
theorem dX7_seen_20 : decode cX7_seen 20 = .ok (.getfield 24, 3) := by decide +kernel
theorem dX7_seen_23 : decode cX7_seen 23 = .ok (.aload_n 0, 1) := by decide +kernel
theorem dX7_seen_24 : decode cX7_seen 24 = .ok (.getfield 214, 3) := by decide +kernel
theorem dX7_seen_27 : decode cX7_seen 27 = .ok (.iaload, 1) := by decide +kernel
theorem dX7_seen_28 : decode cX7_seen 28 = .ok (.ifCond .ne 5, 3) := by decide +kernel
theorem dX7_untell_0 : decode cX7_untell 0 = .ok (.iload_n 1, 1) := by decide +kernel
theorem dX7_untell_1 : decode cX7_untell 1 = .ok (.iconst 0, 1) := by decide +kernel
theorem dX7_untell_2 : decode cX7_untell 2 = .ok (.aload_n 0, 1) := by decide +kernel
theorem dX7_untell_3 : decode cX7_untell 3 = .ok (.getfield 335, 3) := by decide +kernel
theorem dX7_untell_6 : decode cX7_untell 6 = .ok (.iconst 1, 1) := by decide +kernel
theorem dX7_untell_7 : decode cX7_untell 7 = .ok (.isub, 1) := by decide +kernel
theorem dX7_untell_8 : decode cX7_untell 8 = .ok (.invokestatic 316, 3) := by decide +kernel
theorem dX7_untell_11 : decode cX7_untell 11 = .ok (.ifCond .eq 12, 3) := by decide +kernel
theorem dX7_untell_23 : decode cX7_untell 23 = .ok (.iconst 0, 1) := by decide +kernel
theorem dX7_untell_24 : decode cX7_untell 24 = .ok (.ireturn, 1) := by decide +kernel
theorem dX7_later_0 : decode cX7_later 0 = .ok (.iload_n 1, 1) := by decide +kernel
theorem dX7_later_1 : decode cX7_later 1 = .ok (.iconst 0, 1) := by decide +kernel
theorem dX7_later_2 : decode cX7_later 2 = .ok (.sipush 1000, 3) := by decide +kernel
theorem dX7_later_5 : decode cX7_later 5 = .ok (.invokestatic 316, 3) := by decide +kernel
theorem dX7_later_8 : decode cX7_later 8 = .ok (.ifCond .eq 15, 3) := by decide +kernel
theorem dX7_later_23 : decode cX7_later 23 = .ok (.iconst (-1), 1) := by decide +kernel
theorem dX7_later_24 : decode cX7_later 24 = .ok (.ireturn, 1) := by decide +kernel
theorem dX7_later_11 : decode cX7_later 11 = .ok (.aload_n 0, 1) := by decide +kernel
theorem dX7_later_12 : decode cX7_later 12 = .ok (.getfield 486, 3) := by decide +kernel
theorem dX7_later_15 : decode cX7_later 15 = .ok (.iload_n 1, 1) := by decide +kernel
theorem dX7_later_16 : decode cX7_later 16 = .ok (.iadd, 1) := by decide +kernel
theorem dX7_later_17 : decode cX7_later 17 = .ok (.ldc_w 422, 3) := by decide +kernel
theorem dX7_later_20 : decode cX7_later 20 = .ok (.if_icmp .le 5, 3) := by decide +kernel
theorem dX7_later_25 : decode cX7_later 25 = .ok (.aload_n 0, 1) := by decide +kernel
theorem dX7_later_26 : decode cX7_later 26 = .ok (.dup, 1) := by decide +kernel
theorem dX7_later_27 : decode cX7_later 27 = .ok (.getfield 486, 3) := by decide +kernel
theorem dX7_later_30 : decode cX7_later 30 = .ok (.iload_n 1, 1) := by decide +kernel
theorem dX7_later_31 : decode cX7_later 31 = .ok (.iadd, 1) := by decide +kernel
theorem dX7_later_32 : decode cX7_later 32 = .ok (.putfield 486, 3) := by decide +kernel
theorem dX7_later_35 : decode cX7_later 35 = .ok (.aload_n 0, 1) := by decide +kernel
theorem dX7_later_36 : decode cX7_later 36 = .ok (.getfield 486, 3) := by decide +kernel
theorem dX7_later_39 : decode cX7_later 39 = .ok (.ireturn, 1) := by decide +kernel
theorem dX7_cases_0 : decode cX7_cases 0 = .ok (.aload_n 0, 1) := by decide +kernel
theorem dX7_cases_1 : decode cX7_cases 1 = .ok (.getfield 24, 3) := by decide +kernel
theorem dX7_cases_4 : decode cX7_cases 4 = .ok (.aload_n 0, 1) := by decide +kernel
theorem dX7_cases_5 : decode cX7_cases 5 = .ok (.getfield 214, 3) := by decide +kernel
theorem dX7_cases_8 : decode cX7_cases 8 = .ok (.iaload, 1) := by decide +kernel
theorem dX7_cases_9 : decode cX7_cases 9 = .ok (.iconst 1, 1) := by decide +kernel
theorem dX7_cases_10 : decode cX7_cases 10 = .ok (.if_icmp .le 17, 3) := by decide +kernel
theorem dX7_cases_27 : decode cX7_cases 27 = .ok (.aload_n 0, 1) := by decide +kernel
theorem dX7_cases_28 : decode cX7_cases 28 = .ok (.getfield 24, 3) := by decide +kernel
theorem dX7_cases_31 : decode cX7_cases 31 = .ok (.aload_n 0, 1) := by decide +kernel
theorem dX7_cases_32 : decode cX7_cases 32 = .ok (.getfield 214, 3) := by decide +kernel
theorem dX7_cases_35 : decode cX7_cases 35 = .ok (.iaload, 1) := by decide +kernel
theorem dX7_cases_36 : decode cX7_cases 36 = .ok (.ireturn, 1) := by decide +kernel
theorem dX7_layAnswers_0 : decode cX7_layAnswers 0 = .ok (.aload_n 0, 1) := by decide +kernel
theorem dX7_layAnswers_1 : decode cX7_layAnswers 1 = .ok (.invokevirtual 410, 3) := by decide +kernel
theorem dX7_layAnswers_4 : decode cX7_layAnswers 4 = .ok (.iconst 0, 1) := by decide +kernel
theorem dX7_layAnswers_5 : decode cX7_layAnswers 5 = .ok (.istore_n 1, 1) := by decide +kernel
theorem dX7_layAnswers_6 : decode cX7_layAnswers 6 = .ok (.iload_n 1, 1) := by decide +kernel
theorem dX7_layAnswers_7 : decode cX7_layAnswers 7 = .ok (.aload_n 0, 1) := by decide +kernel
theorem dX7_layAnswers_8 : decode cX7_layAnswers 8 = .ok (.invokevirtual 489, 3) := by decide +kernel
theorem dX7_layAnswers_11 : decode cX7_layAnswers 11 = .ok (.if_icmp .ge 79, 3) := by decide +kernel
theorem dX7_layAnswers_90 : decode cX7_layAnswers 90 = .ok (.aload_n 0, 1) := by decide +kernel
theorem dX7_layAnswers_91 : decode cX7_layAnswers 91 = .ok (.invokevirtual 416, 3) := by decide +kernel
theorem dX7_layAnswers_94 : decode cX7_layAnswers 94 = .ok (.return_, 1) := by decide +kernel
theorem dX7_fits_0 : decode cX7_fits 0 = .ok (.aload_n 0, 1) := by decide +kernel
theorem dX7_fits_1 : decode cX7_fits 1 = .ok (.invokevirtual 495, 3) := by decide +kernel
theorem dX7_fits_4 : decode cX7_fits 4 = .ok (.iconst 0, 1) := by decide +kernel
theorem dX7_fits_5 : decode cX7_fits 5 = .ok (.istore_n 2, 1) := by decide +kernel
theorem dX7_fits_6 : decode cX7_fits 6 = .ok (.iconst 0, 1) := by decide +kernel
theorem dX7_fits_7 : decode cX7_fits 7 = .ok (.istore_n 3, 1) := by decide +kernel
theorem dX7_fits_8 : decode cX7_fits 8 = .ok (.iload_n 3, 1) := by decide +kernel
theorem dX7_fits_9 : decode cX7_fits 9 = .ok (.aload_n 0, 1) := by decide +kernel
theorem dX7_fits_10 : decode cX7_fits 10 = .ok (.invokevirtual 489, 3) := by decide +kernel
theorem dX7_fits_13 : decode cX7_fits 13 = .ok (.if_icmp .ge 26, 3) := by decide +kernel
theorem dX7_fits_39 : decode cX7_fits 39 = .ok (.iload_n 2, 1) := by decide +kernel
theorem dX7_fits_40 : decode cX7_fits 40 = .ok (.ireturn, 1) := by decide +kernel
theorem dX7_culprit_0 : decode cX7_culprit 0 = .ok (.aload_n 0, 1) := by decide +kernel
theorem dX7_culprit_1 : decode cX7_culprit 1 = .ok (.invokevirtual 495, 3) := by decide +kernel
theorem dX7_culprit_4 : decode cX7_culprit 4 = .ok (.iload_n 1, 1) := by decide +kernel
theorem dX7_culprit_5 : decode cX7_culprit 5 = .ok (.istore_n 3, 1) := by decide +kernel
theorem dX7_culprit_6 : decode cX7_culprit 6 = .ok (.iconst 0, 1) := by decide +kernel
theorem dX7_culprit_7 : decode cX7_culprit 7 = .ok (.istore 4, 2) := by decide +kernel
theorem dX7_culprit_9 : decode cX7_culprit 9 = .ok (.iload 4, 2) := by decide +kernel
theorem dX7_culprit_11 : decode cX7_culprit 11 = .ok (.aload_n 0, 1) := by decide +kernel
theorem dX7_culprit_12 : decode cX7_culprit 12 = .ok (.invokevirtual 489, 3) := by decide +kernel
theorem dX7_culprit_15 : decode cX7_culprit 15 = .ok (.if_icmp .ge 38, 3) := by decide +kernel
theorem dX7_culprit_53 : decode cX7_culprit 53 = .ok (.bipush (-2), 2) := by decide +kernel
theorem dX7_culprit_55 : decode cX7_culprit 55 = .ok (.ireturn, 1) := by decide +kernel
theorem dX7_ask_0 : decode cX7_ask 0 = .ok (.iload_n 1, 1) := by decide +kernel
theorem dX7_ask_1 : decode cX7_ask 1 = .ok (.iconst 0, 1) := by decide +kernel
theorem dX7_ask_2 : decode cX7_ask 2 = .ok (.iconst 1, 1) := by decide +kernel
theorem dX7_ask_3 : decode cX7_ask 3 = .ok (.invokestatic 316, 3) := by decide +kernel
theorem dX7_ask_6 : decode cX7_ask 6 = .ok (.ifCond .eq 11, 3) := by decide +kernel
theorem dX7_ask_17 : decode cX7_ask 17 = .ok (.iconst (-1), 1) := by decide +kernel
theorem dX7_ask_18 : decode cX7_ask 18 = .ok (.ireturn, 1) := by decide +kernel
theorem dX7_ask_9 : decode cX7_ask 9 = .ok (.aload_n 0, 1) := by decide +kernel
theorem dX7_ask_10 : decode cX7_ask 10 = .ok (.iload_n 2, 1) := by decide +kernel
theorem dX7_ask_11 : decode cX7_ask 11 = .ok (.invokevirtual 501, 3) := by decide +kernel
theorem dX7_ask_14 : decode cX7_ask 14 = .ok (.ifCond .ne 5, 3) := by decide +kernel
theorem dX7_image_0 : decode cX7_image 0 = .ok (.iload_n 1, 1) := by decide +kernel
theorem dX7_image_1 : decode cX7_image 1 = .ok (.iconst 0, 1) := by decide +kernel
theorem dX7_image_2 : decode cX7_image 2 = .ok (.iconst 2, 1) := by decide +kernel
theorem dX7_image_3 : decode cX7_image 3 = .ok (.invokestatic 316, 3) := by decide +kernel
theorem dX7_image_6 : decode cX7_image 6 = .ok (.ifCond .ne 5, 3) := by decide +kernel
theorem dX7_image_11 : decode cX7_image 11 = .ok (.iconst 0, 1) := by decide +kernel
theorem dX7_image_12 : decode cX7_image 12 = .ok (.istore_n 2, 1) := by decide +kernel
theorem dX7_image_13 : decode cX7_image 13 = .ok (.iload_n 2, 1) := by decide +kernel
theorem dX7_image_14 : decode cX7_image 14 = .ok (.sipush 520, 3) := by decide +kernel
theorem dX7_image_17 : decode cX7_image 17 = .ok (.if_icmp .ge 27, 3) := by decide +kernel
theorem dX7_image_44 : decode cX7_image 44 = .ok (.aload_n 0, 1) := by decide +kernel
theorem dX7_image_45 : decode cX7_image 45 = .ok (.getfield 109, 3) := by decide +kernel
theorem dX7_image_48 : decode cX7_image 48 = .ok (.iload_n 1, 1) := by decide +kernel
theorem dX7_image_49 : decode cX7_image 49 = .ok (.iconst 1, 1) := by decide +kernel
theorem dX7_image_50 : decode cX7_image 50 = .ok (.bastore, 1) := by decide +kernel
theorem dX7_image_51 : decode cX7_image 51 = .ok (.aload_n 0, 1) := by decide +kernel
theorem dX7_image_52 : decode cX7_image 52 = .ok (.getfield 76, 3) := by decide +kernel
theorem dX7_image_55 : decode cX7_image 55 = .ok (.bipush 108, 2) := by decide +kernel
theorem dX7_image_57 : decode cX7_image 57 = .ok (.iaload, 1) := by decide +kernel
theorem dX7_image_58 : decode cX7_image 58 = .ok (.ireturn, 1) := by decide +kernel
theorem dX7_image_20 : decode cX7_image 20 = .ok (.aload_n 0, 1) := by decide +kernel
theorem dX7_image_21 : decode cX7_image 21 = .ok (.getfield 106, 3) := by decide +kernel
theorem dX7_image_24 : decode cX7_image 24 = .ok (.sipush 520, 3) := by decide +kernel
theorem dX7_image_27 : decode cX7_image 27 = .ok (.iload_n 1, 1) := by decide +kernel
theorem dX7_image_28 : decode cX7_image 28 = .ok (.imul, 1) := by decide +kernel
theorem dX7_image_29 : decode cX7_image 29 = .ok (.iload_n 2, 1) := by decide +kernel
theorem dX7_image_30 : decode cX7_image 30 = .ok (.iadd, 1) := by decide +kernel
theorem dX7_image_31 : decode cX7_image 31 = .ok (.aload_n 0, 1) := by decide +kernel
theorem dX7_image_32 : decode cX7_image 32 = .ok (.getfield 76, 3) := by decide +kernel
theorem dX7_image_35 : decode cX7_image 35 = .ok (.iload_n 2, 1) := by decide +kernel
theorem dX7_image_36 : decode cX7_image 36 = .ok (.iaload, 1) := by decide +kernel
theorem dX7_image_37 : decode cX7_image 37 = .ok (.iastore, 1) := by decide +kernel
theorem dX7_image_38 : decode cX7_image 38 = .ok (.iinc 2 1, 3) := by decide +kernel
theorem dX7_image_41 : decode cX7_image 41 = .ok (.goto (-28), 3) := by decide +kernel
theorem dX7_image_9 : decode cX7_image 9 = .ok (.iconst (-1), 1) := by decide +kernel
theorem dX7_image_10 : decode cX7_image 10 = .ok (.ireturn, 1) := by decide +kernel
theorem dX7_back_0 : decode cX7_back 0 = .ok (.iload_n 1, 1) := by decide +kernel
theorem dX7_back_1 : decode cX7_back 1 = .ok (.iconst 0, 1) := by decide +kernel
theorem dX7_back_2 : decode cX7_back 2 = .ok (.iconst 2, 1) := by decide +kernel
theorem dX7_back_3 : decode cX7_back 3 = .ok (.invokestatic 316, 3) := by decide +kernel
theorem dX7_back_6 : decode cX7_back 6 = .ok (.ifCond .eq 12, 3) := by decide +kernel
theorem dX7_back_18 : decode cX7_back 18 = .ok (.iconst (-1), 1) := by decide +kernel
theorem dX7_back_19 : decode cX7_back 19 = .ok (.ireturn, 1) := by decide +kernel
theorem dX7_back_9 : decode cX7_back 9 = .ok (.aload_n 0, 1) := by decide +kernel
theorem dX7_back_10 : decode cX7_back 10 = .ok (.getfield 109, 3) := by decide +kernel
theorem dX7_back_13 : decode cX7_back 13 = .ok (.iload_n 1, 1) := by decide +kernel
theorem dX7_back_14 : decode cX7_back 14 = .ok (.baload, 1) := by decide +kernel
theorem dX7_back_15 : decode cX7_back 15 = .ok (.ifCond .ne 5, 3) := by decide +kernel
theorem dX7_about_0 : decode cX7_about 0 = .ok (.iload_n 1, 1) := by decide +kernel
theorem dX7_about_1 : decode cX7_about 1 = .ok (.tableswitch 231 0 16 #[83, 88, 98, 108, 125, 133, 155, 163, 171, 176, 181, 186, 191, 196, 206, 211, 221], 83) := by decide +kernel
theorem dX7_about_84 : decode cX7_about 84 = .ok (.aload_n 0, 1) := by decide +kernel
theorem dX7_about_85 : decode cX7_about 85 = .ok (.invokevirtual 313, 3) := by decide +kernel
theorem dX7_about_88 : decode cX7_about 88 = .ok (.ireturn, 1) := by decide +kernel
theorem dX7_about_89 : decode cX7_about 89 = .ok (.aload_n 0, 1) := by decide +kernel
theorem dX7_about_90 : decode cX7_about 90 = .ok (.getfield 20, 3) := by decide +kernel
theorem dX7_about_93 : decode cX7_about 93 = .ok (.aload_n 0, 1) := by decide +kernel
theorem dX7_about_94 : decode cX7_about 94 = .ok (.getfield 214, 3) := by decide +kernel
theorem dX7_about_97 : decode cX7_about 97 = .ok (.iaload, 1) := by decide +kernel
theorem dX7_about_98 : decode cX7_about 98 = .ok (.ireturn, 1) := by decide +kernel
theorem dX7_about_99 : decode cX7_about 99 = .ok (.aload_n 0, 1) := by decide +kernel
theorem dX7_about_100 : decode cX7_about 100 = .ok (.getfield 27, 3) := by decide +kernel
theorem dX7_about_103 : decode cX7_about 103 = .ok (.aload_n 0, 1) := by decide +kernel
theorem dX7_about_104 : decode cX7_about 104 = .ok (.getfield 214, 3) := by decide +kernel
theorem dX7_about_107 : decode cX7_about 107 = .ok (.iaload, 1) := by decide +kernel
theorem dX7_about_108 : decode cX7_about 108 = .ok (.ireturn, 1) := by decide +kernel
theorem dX7_about_109 : decode cX7_about 109 = .ok (.aload_n 0, 1) := by decide +kernel
theorem dX7_about_110 : decode cX7_about 110 = .ok (.invokevirtual 313, 3) := by decide +kernel
theorem dX7_about_113 : decode cX7_about 113 = .ok (.ifCond .ne 7, 3) := by decide +kernel
theorem dX7_about_116 : decode cX7_about 116 = .ok (.iconst 0, 1) := by decide +kernel
theorem dX7_about_117 : decode cX7_about 117 = .ok (.goto 8, 3) := by decide +kernel
theorem dX7_about_125 : decode cX7_about 125 = .ok (.ireturn, 1) := by decide +kernel
theorem dX7_about_126 : decode cX7_about 126 = .ok (.aload_n 0, 1) := by decide +kernel
theorem dX7_about_127 : decode cX7_about 127 = .ok (.getfield 76, 3) := by decide +kernel
theorem dX7_about_130 : decode cX7_about 130 = .ok (.bipush 107, 2) := by decide +kernel
theorem dX7_about_132 : decode cX7_about 132 = .ok (.iaload, 1) := by decide +kernel
theorem dX7_about_133 : decode cX7_about 133 = .ok (.ireturn, 1) := by decide +kernel
theorem dX7_about_134 : decode cX7_about 134 = .ok (.aload_n 0, 1) := by decide +kernel
theorem dX7_about_135 : decode cX7_about 135 = .ok (.getfield 76, 3) := by decide +kernel
theorem dX7_about_138 : decode cX7_about 138 = .ok (.bipush 105, 2) := by decide +kernel
theorem dX7_about_140 : decode cX7_about 140 = .ok (.iaload, 1) := by decide +kernel
theorem dX7_about_141 : decode cX7_about 141 = .ok (.ifCond .ge 7, 3) := by decide +kernel
theorem dX7_about_144 : decode cX7_about 144 = .ok (.iconst 0, 1) := by decide +kernel
theorem dX7_about_145 : decode cX7_about 145 = .ok (.goto 10, 3) := by decide +kernel
theorem dX7_about_155 : decode cX7_about 155 = .ok (.ireturn, 1) := by decide +kernel
theorem dX7_about_156 : decode cX7_about 156 = .ok (.aload_n 0, 1) := by decide +kernel
theorem dX7_about_157 : decode cX7_about 157 = .ok (.getfield 76, 3) := by decide +kernel
theorem dX7_about_160 : decode cX7_about 160 = .ok (.bipush 108, 2) := by decide +kernel
theorem dX7_about_162 : decode cX7_about 162 = .ok (.iaload, 1) := by decide +kernel
theorem dX7_about_163 : decode cX7_about 163 = .ok (.ireturn, 1) := by decide +kernel
theorem dX7_about_164 : decode cX7_about 164 = .ok (.aload_n 0, 1) := by decide +kernel
theorem dX7_about_165 : decode cX7_about 165 = .ok (.getfield 76, 3) := by decide +kernel
theorem dX7_about_168 : decode cX7_about 168 = .ok (.bipush 109, 2) := by decide +kernel
theorem dX7_about_170 : decode cX7_about 170 = .ok (.iaload, 1) := by decide +kernel
theorem dX7_about_171 : decode cX7_about 171 = .ok (.ireturn, 1) := by decide +kernel
theorem dX7_about_172 : decode cX7_about 172 = .ok (.aload_n 0, 1) := by decide +kernel
theorem dX7_about_173 : decode cX7_about 173 = .ok (.getfield 329, 3) := by decide +kernel
theorem dX7_about_176 : decode cX7_about 176 = .ok (.ireturn, 1) := by decide +kernel
theorem dX7_about_177 : decode cX7_about 177 = .ok (.aload_n 0, 1) := by decide +kernel
theorem dX7_about_178 : decode cX7_about 178 = .ok (.getfield 332, 3) := by decide +kernel
theorem dX7_about_181 : decode cX7_about 181 = .ok (.ireturn, 1) := by decide +kernel
theorem dX7_about_182 : decode cX7_about 182 = .ok (.aload_n 0, 1) := by decide +kernel
theorem dX7_about_183 : decode cX7_about 183 = .ok (.getfield 335, 3) := by decide +kernel
theorem dX7_about_186 : decode cX7_about 186 = .ok (.ireturn, 1) := by decide +kernel
theorem dX7_about_187 : decode cX7_about 187 = .ok (.aload_n 0, 1) := by decide +kernel
theorem dX7_about_188 : decode cX7_about 188 = .ok (.getfield 486, 3) := by decide +kernel
theorem dX7_about_191 : decode cX7_about 191 = .ok (.ireturn, 1) := by decide +kernel
theorem dX7_about_192 : decode cX7_about 192 = .ok (.aload_n 0, 1) := by decide +kernel
theorem dX7_about_193 : decode cX7_about 193 = .ok (.getfield 211, 3) := by decide +kernel
theorem dX7_about_196 : decode cX7_about 196 = .ok (.ireturn, 1) := by decide +kernel
theorem dX7_about_197 : decode cX7_about 197 = .ok (.aload_n 0, 1) := by decide +kernel
theorem dX7_about_198 : decode cX7_about 198 = .ok (.getfield 30, 3) := by decide +kernel
theorem dX7_about_201 : decode cX7_about 201 = .ok (.aload_n 0, 1) := by decide +kernel
theorem dX7_about_202 : decode cX7_about 202 = .ok (.getfield 214, 3) := by decide +kernel
theorem dX7_about_205 : decode cX7_about 205 = .ok (.iaload, 1) := by decide +kernel
theorem dX7_about_206 : decode cX7_about 206 = .ok (.ireturn, 1) := by decide +kernel
theorem dX7_about_207 : decode cX7_about 207 = .ok (.aload_n 0, 1) := by decide +kernel
theorem dX7_about_208 : decode cX7_about 208 = .ok (.getfield 338, 3) := by decide +kernel
theorem dX7_about_211 : decode cX7_about 211 = .ok (.ireturn, 1) := by decide +kernel
theorem dX7_about_212 : decode cX7_about 212 = .ok (.aload_n 0, 1) := by decide +kernel
theorem dX7_about_213 : decode cX7_about 213 = .ok (.getfield 33, 3) := by decide +kernel
theorem dX7_about_216 : decode cX7_about 216 = .ok (.aload_n 0, 1) := by decide +kernel
theorem dX7_about_217 : decode cX7_about 217 = .ok (.getfield 214, 3) := by decide +kernel
theorem dX7_about_220 : decode cX7_about 220 = .ok (.iaload, 1) := by decide +kernel
theorem dX7_about_221 : decode cX7_about 221 = .ok (.ireturn, 1) := by decide +kernel
theorem dX7_about_222 : decode cX7_about 222 = .ok (.aload_n 0, 1) := by decide +kernel
theorem dX7_about_223 : decode cX7_about 223 = .ok (.getfield 36, 3) := by decide +kernel
theorem dX7_about_226 : decode cX7_about 226 = .ok (.aload_n 0, 1) := by decide +kernel
theorem dX7_about_227 : decode cX7_about 227 = .ok (.getfield 214, 3) := by decide +kernel
theorem dX7_about_230 : decode cX7_about 230 = .ok (.iaload, 1) := by decide +kernel
theorem dX7_about_231 : decode cX7_about 231 = .ok (.ireturn, 1) := by decide +kernel
theorem dX7_about_232 : decode cX7_about 232 = .ok (.iconst (-1), 1) := by decide +kernel
theorem dX7_about_233 : decode cX7_about 233 = .ok (.ireturn, 1) := by decide +kernel
theorem dX0_init_0 : decode cX0_init 0 = .ok (.aload_n 0, 1) := by decide +kernel
theorem dX0_init_1 : decode cX0_init 1 = .ok (.invokespecial 3, 3) := by decide +kernel
theorem dX0_init_4 : decode cX0_init 4 = .ok (.aload_n 0, 1) := by decide +kernel
theorem dX0_init_5 : decode cX0_init 5 = .ok (.sipush 270, 3) := by decide +kernel
theorem dX0_init_8 : decode cX0_init 8 = .ok (.newarray .int, 2) := by decide +kernel
theorem dX0_init_10 : decode cX0_init 10 = .ok (.putfield 11, 3) := by decide +kernel
theorem dX0_init_13 : decode cX0_init 13 = .ok (.aload_n 0, 1) := by decide +kernel
theorem dX0_init_14 : decode cX0_init 14 = .ok (.bipush 31, 2) := by decide +kernel
theorem dX0_init_16 : decode cX0_init 16 = .ok (.newarray .int, 2) := by decide +kernel
theorem dX0_init_18 : decode cX0_init 18 = .ok (.putfield 15, 3) := by decide +kernel
theorem dX0_init_21 : decode cX0_init 21 = .ok (.aload_n 0, 1) := by decide +kernel
theorem dX0_init_22 : decode cX0_init 22 = .ok (.bipush 6, 2) := by decide +kernel
theorem dX0_init_24 : decode cX0_init 24 = .ok (.newarray .int, 2) := by decide +kernel
theorem dX0_init_26 : decode cX0_init 26 = .ok (.putfield 18, 3) := by decide +kernel
theorem dX0_init_29 : decode cX0_init 29 = .ok (.return_, 1) := by decide +kernel
theorem dX1_init_0 : decode cX1_init 0 = .ok (.aload_n 0, 1) := by decide +kernel
theorem dX1_init_1 : decode cX1_init 1 = .ok (.invokespecial 3, 3) := by decide +kernel
theorem dX1_init_4 : decode cX1_init 4 = .ok (.aload_n 0, 1) := by decide +kernel
theorem dX1_init_5 : decode cX1_init 5 = .ok (.bipush 6, 2) := by decide +kernel
theorem dX1_init_7 : decode cX1_init 7 = .ok (.newarray .int, 2) := by decide +kernel
theorem dX1_init_9 : decode cX1_init 9 = .ok (.putfield 9, 3) := by decide +kernel
theorem dX1_init_12 : decode cX1_init 12 = .ok (.aload_n 0, 1) := by decide +kernel
theorem dX1_init_13 : decode cX1_init 13 = .ok (.bipush 8, 2) := by decide +kernel
theorem dX1_init_15 : decode cX1_init 15 = .ok (.newarray .long, 2) := by decide +kernel
theorem dX1_init_17 : decode cX1_init 17 = .ok (.putfield 15, 3) := by decide +kernel
theorem dX1_init_20 : decode cX1_init 20 = .ok (.aload_n 0, 1) := by decide +kernel
theorem dX1_init_21 : decode cX1_init 21 = .ok (.iconst 4, 1) := by decide +kernel
theorem dX1_init_22 : decode cX1_init 22 = .ok (.newarray .long, 2) := by decide +kernel
theorem dX1_init_24 : decode cX1_init 24 = .ok (.putfield 19, 3) := by decide +kernel
theorem dX1_init_27 : decode cX1_init 27 = .ok (.aload_n 0, 1) := by decide +kernel
theorem dX1_init_28 : decode cX1_init 28 = .ok (.new 22, 3) := by decide +kernel
theorem dX1_init_31 : decode cX1_init 31 = .ok (.dup, 1) := by decide +kernel
theorem dX1_init_32 : decode cX1_init 32 = .ok (.invokespecial 24, 3) := by decide +kernel
theorem dX1_init_35 : decode cX1_init 35 = .ok (.putfield 25, 3) := by decide +kernel
theorem dX1_init_38 : decode cX1_init 38 = .ok (.aload_n 0, 1) := by decide +kernel
theorem dX1_init_39 : decode cX1_init 39 = .ok (.invokevirtual 29, 3) := by decide +kernel
theorem dX1_init_42 : decode cX1_init 42 = .ok (.return_, 1) := by decide +kernel
theorem dX2_init_0 : decode cX2_init 0 = .ok (.aload_n 0, 1) := by decide +kernel
theorem dX2_init_1 : decode cX2_init 1 = .ok (.invokespecial 3, 3) := by decide +kernel
theorem dX2_init_4 : decode cX2_init 4 = .ok (.aload_n 0, 1) := by decide +kernel
theorem dX2_init_5 : decode cX2_init 5 = .ok (.iconst (-1), 1) := by decide +kernel
theorem dX2_init_6 : decode cX2_init 6 = .ok (.putfield 9, 3) := by decide +kernel
theorem dX2_init_9 : decode cX2_init 9 = .ok (.aload_n 0, 1) := by decide +kernel
theorem dX2_init_10 : decode cX2_init 10 = .ok (.aload_n 1, 1) := by decide +kernel
theorem dX2_init_11 : decode cX2_init 11 = .ok (.putfield 15, 3) := by decide +kernel
theorem dX2_init_14 : decode cX2_init 14 = .ok (.aload_n 0, 1) := by decide +kernel
theorem dX2_init_15 : decode cX2_init 15 = .ok (.aload_n 2, 1) := by decide +kernel
theorem dX2_init_16 : decode cX2_init 16 = .ok (.putfield 19, 3) := by decide +kernel
theorem dX2_init_19 : decode cX2_init 19 = .ok (.return_, 1) := by decide +kernel
theorem dX3_init_0 : decode cX3_init 0 = .ok (.aload_n 0, 1) := by decide +kernel
theorem dX3_init_1 : decode cX3_init 1 = .ok (.invokespecial 3, 3) := by decide +kernel
theorem dX3_init_4 : decode cX3_init 4 = .ok (.aload_n 0, 1) := by decide +kernel
theorem dX3_init_5 : decode cX3_init 5 = .ok (.aload_n 1, 1) := by decide +kernel
theorem dX3_init_6 : decode cX3_init 6 = .ok (.putfield 9, 3) := by decide +kernel
theorem dX3_init_9 : decode cX3_init 9 = .ok (.return_, 1) := by decide +kernel
theorem dX4_init_0 : decode cX4_init 0 = .ok (.aload_n 0, 1) := by decide +kernel
theorem dX4_init_1 : decode cX4_init 1 = .ok (.invokespecial 3, 3) := by decide +kernel
theorem dX4_init_4 : decode cX4_init 4 = .ok (.aload_n 0, 1) := by decide +kernel
theorem dX4_init_5 : decode cX4_init 5 = .ok (.bipush 30, 2) := by decide +kernel
theorem dX4_init_7 : decode cX4_init 7 = .ok (.newarray .int, 2) := by decide +kernel
theorem dX4_init_9 : decode cX4_init 9 = .ok (.putfield 9, 3) := by decide +kernel
theorem dX4_init_12 : decode cX4_init 12 = .ok (.aload_n 0, 1) := by decide +kernel
theorem dX4_init_13 : decode cX4_init 13 = .ok (.bipush 30, 2) := by decide +kernel
theorem dX4_init_15 : decode cX4_init 15 = .ok (.newarray .boolean, 2) := by decide +kernel
theorem dX4_init_17 : decode cX4_init 17 = .ok (.putfield 15, 3) := by decide +kernel
theorem dX4_init_20 : decode cX4_init 20 = .ok (.aload_n 0, 1) := by decide +kernel
theorem dX4_init_21 : decode cX4_init 21 = .ok (.bipush 30, 2) := by decide +kernel
theorem dX4_init_23 : decode cX4_init 23 = .ok (.newarray .int, 2) := by decide +kernel
theorem dX4_init_25 : decode cX4_init 25 = .ok (.putfield 19, 3) := by decide +kernel
theorem dX4_init_28 : decode cX4_init 28 = .ok (.aload_n 0, 1) := by decide +kernel
theorem dX4_init_29 : decode cX4_init 29 = .ok (.bipush 30, 2) := by decide +kernel
theorem dX4_init_31 : decode cX4_init 31 = .ok (.newarray .int, 2) := by decide +kernel
theorem dX4_init_33 : decode cX4_init 33 = .ok (.putfield 22, 3) := by decide +kernel
theorem dX4_init_36 : decode cX4_init 36 = .ok (.return_, 1) := by decide +kernel
theorem dX6_stateAt_11 : decode cX6_stateAt 11 = .ok (.new 41, 3) := by decide +kernel
theorem dX6_stateAt_14 : decode cX6_stateAt 14 = .ok (.dup, 1) := by decide +kernel
theorem dX6_stateAt_15 : decode cX6_stateAt 15 = .ok (.invokespecial 47, 3) := by decide +kernel
theorem dX6_stateAt_18 : decode cX6_stateAt 18 = .ok (.astore_n 2, 1) := by decide +kernel
theorem dX6_stateAt_19 : decode cX6_stateAt 19 = .ok (.aload_n 0, 1) := by decide +kernel
theorem dX6_stateAt_20 : decode cX6_stateAt 20 = .ok (.getfield 43, 3) := by decide +kernel
theorem dX6_stateAt_23 : decode cX6_stateAt 23 = .ok (.iload_n 1, 1) := by decide +kernel
theorem dX6_stateAt_24 : decode cX6_stateAt 24 = .ok (.aload_n 2, 1) := by decide +kernel
theorem dX6_stateAt_25 : decode cX6_stateAt 25 = .ok (.aastore, 1) := by decide +kernel
theorem dX6_init_0 : decode cX6_init 0 = .ok (.aload_n 0, 1) := by decide +kernel
theorem dX6_init_1 : decode cX6_init 1 = .ok (.invokespecial 1, 3) := by decide +kernel
theorem dX6_init_4 : decode cX6_init 4 = .ok (.aload_n 0, 1) := by decide +kernel
theorem dX6_init_5 : decode cX6_init 5 = .ok (.sipush 1600, 3) := by decide +kernel
theorem dX6_init_8 : decode cX6_init 8 = .ok (.newarray .byte, 2) := by decide +kernel
theorem dX6_init_10 : decode cX6_init 10 = .ok (.putfield 9, 3) := by decide +kernel
theorem dX6_init_13 : decode cX6_init 13 = .ok (.aload_n 0, 1) := by decide +kernel
theorem dX6_init_14 : decode cX6_init 14 = .ok (.new 13, 3) := by decide +kernel
theorem dX6_init_17 : decode cX6_init 17 = .ok (.dup, 1) := by decide +kernel
theorem dX6_init_18 : decode cX6_init 18 = .ok (.invokespecial 15, 3) := by decide +kernel
theorem dX6_init_21 : decode cX6_init 21 = .ok (.putfield 16, 3) := by decide +kernel
theorem dX6_init_24 : decode cX6_init 24 = .ok (.aload_n 0, 1) := by decide +kernel
theorem dX6_init_25 : decode cX6_init 25 = .ok (.new 13, 3) := by decide +kernel
theorem dX6_init_28 : decode cX6_init 28 = .ok (.dup, 1) := by decide +kernel
theorem dX6_init_29 : decode cX6_init 29 = .ok (.invokespecial 15, 3) := by decide +kernel
theorem dX6_init_32 : decode cX6_init 32 = .ok (.putfield 20, 3) := by decide +kernel
theorem dX6_init_35 : decode cX6_init 35 = .ok (.aload_n 0, 1) := by decide +kernel
theorem dX6_init_36 : decode cX6_init 36 = .ok (.new 23, 3) := by decide +kernel
theorem dX6_init_39 : decode cX6_init 39 = .ok (.dup, 1) := by decide +kernel
theorem dX6_init_40 : decode cX6_init 40 = .ok (.aload_n 0, 1) := by decide +kernel
theorem dX6_init_41 : decode cX6_init 41 = .ok (.getfield 9, 3) := by decide +kernel
theorem dX6_init_44 : decode cX6_init 44 = .ok (.aload_n 0, 1) := by decide +kernel
theorem dX6_init_45 : decode cX6_init 45 = .ok (.getfield 20, 3) := by decide +kernel
theorem dX6_init_48 : decode cX6_init 48 = .ok (.invokespecial 25, 3) := by decide +kernel
theorem dX6_init_51 : decode cX6_init 51 = .ok (.putfield 28, 3) := by decide +kernel
theorem dX6_init_54 : decode cX6_init 54 = .ok (.aload_n 0, 1) := by decide +kernel
theorem dX6_init_55 : decode cX6_init 55 = .ok (.new 32, 3) := by decide +kernel
theorem dX6_init_58 : decode cX6_init 58 = .ok (.dup, 1) := by decide +kernel
theorem dX6_init_59 : decode cX6_init 59 = .ok (.aload_n 0, 1) := by decide +kernel
theorem dX6_init_60 : decode cX6_init 60 = .ok (.getfield 16, 3) := by decide +kernel
theorem dX6_init_63 : decode cX6_init 63 = .ok (.invokespecial 34, 3) := by decide +kernel
theorem dX6_init_66 : decode cX6_init 66 = .ok (.putfield 37, 3) := by decide +kernel
theorem dX6_init_69 : decode cX6_init 69 = .ok (.aload_n 0, 1) := by decide +kernel
theorem dX6_init_70 : decode cX6_init 70 = .ok (.bipush 41, 2) := by decide +kernel
theorem dX6_init_72 : decode cX6_init 72 = .ok (.anewarray 41, 3) := by decide +kernel
theorem dX6_init_75 : decode cX6_init 75 = .ok (.putfield 43, 3) := by decide +kernel
theorem dX6_init_78 : decode cX6_init 78 = .ok (.aload_n 0, 1) := by decide +kernel
theorem dX6_init_79 : decode cX6_init 79 = .ok (.new 41, 3) := by decide +kernel
theorem dX6_init_82 : decode cX6_init 82 = .ok (.dup, 1) := by decide +kernel
theorem dX6_init_83 : decode cX6_init 83 = .ok (.invokespecial 47, 3) := by decide +kernel
theorem dX6_init_86 : decode cX6_init 86 = .ok (.putfield 48, 3) := by decide +kernel
theorem dX6_init_89 : decode cX6_init 89 = .ok (.aload_n 0, 1) := by decide +kernel
theorem dX6_init_90 : decode cX6_init 90 = .ok (.iconst 3, 1) := by decide +kernel
theorem dX6_init_91 : decode cX6_init 91 = .ok (.anewarray 41, 3) := by decide +kernel
theorem dX6_init_94 : decode cX6_init 94 = .ok (.putfield 52, 3) := by decide +kernel
theorem dX6_init_97 : decode cX6_init 97 = .ok (.aload_n 0, 1) := by decide +kernel
theorem dX6_init_98 : decode cX6_init 98 = .ok (.iconst 3, 1) := by decide +kernel
theorem dX6_init_99 : decode cX6_init 99 = .ok (.newarray .boolean, 2) := by decide +kernel
theorem dX6_init_101 : decode cX6_init 101 = .ok (.putfield 55, 3) := by decide +kernel
theorem dX6_init_104 : decode cX6_init 104 = .ok (.aload_n 0, 1) := by decide +kernel
theorem dX6_init_105 : decode cX6_init 105 = .ok (.bipush 6, 2) := by decide +kernel
theorem dX6_init_107 : decode cX6_init 107 = .ok (.newarray .int, 2) := by decide +kernel
theorem dX6_init_109 : decode cX6_init 109 = .ok (.putfield 59, 3) := by decide +kernel
theorem dX6_init_112 : decode cX6_init 112 = .ok (.aload_n 0, 1) := by decide +kernel
theorem dX6_init_113 : decode cX6_init 113 = .ok (.bipush 6, 2) := by decide +kernel
theorem dX6_init_115 : decode cX6_init 115 = .ok (.newarray .int, 2) := by decide +kernel
theorem dX6_init_117 : decode cX6_init 117 = .ok (.putfield 63, 3) := by decide +kernel
theorem dX6_init_120 : decode cX6_init 120 = .ok (.aload_n 0, 1) := by decide +kernel
theorem dX6_init_121 : decode cX6_init 121 = .ok (.new 66, 3) := by decide +kernel
theorem dX6_init_124 : decode cX6_init 124 = .ok (.dup, 1) := by decide +kernel
theorem dX6_init_125 : decode cX6_init 125 = .ok (.invokespecial 68, 3) := by decide +kernel
theorem dX6_init_128 : decode cX6_init 128 = .ok (.putfield 69, 3) := by decide +kernel
theorem dX6_init_131 : decode cX6_init 131 = .ok (.aload_n 0, 1) := by decide +kernel
theorem dX6_init_132 : decode cX6_init 132 = .ok (.bipush 7, 2) := by decide +kernel
theorem dX6_init_134 : decode cX6_init 134 = .ok (.newarray .int, 2) := by decide +kernel
theorem dX6_init_136 : decode cX6_init 136 = .ok (.putfield 73, 3) := by decide +kernel
theorem dX6_init_139 : decode cX6_init 139 = .ok (.aload_n 0, 1) := by decide +kernel
theorem dX6_init_140 : decode cX6_init 140 = .ok (.invokevirtual 76, 3) := by decide +kernel
theorem dX6_init_143 : decode cX6_init 143 = .ok (.return_, 1) := by decide +kernel
theorem dX7_init_0 : decode cX7_init 0 = .ok (.aload_n 0, 1) := by decide +kernel
theorem dX7_init_1 : decode cX7_init 1 = .ok (.invokespecial 1, 3) := by decide +kernel
theorem dX7_init_4 : decode cX7_init 4 = .ok (.aload_n 0, 1) := by decide +kernel
theorem dX7_init_5 : decode cX7_init 5 = .ok (.sipush 1620, 3) := by decide +kernel
theorem dX7_init_8 : decode cX7_init 8 = .ok (.newarray .byte, 2) := by decide +kernel
theorem dX7_init_10 : decode cX7_init 10 = .ok (.putfield 7, 3) := by decide +kernel
theorem dX7_init_13 : decode cX7_init 13 = .ok (.aload_n 0, 1) := by decide +kernel
theorem dX7_init_14 : decode cX7_init 14 = .ok (.sipush 1600, 3) := by decide +kernel
theorem dX7_init_17 : decode cX7_init 17 = .ok (.newarray .byte, 2) := by decide +kernel
theorem dX7_init_19 : decode cX7_init 19 = .ok (.putfield 13, 3) := by decide +kernel
theorem dX7_init_22 : decode cX7_init 22 = .ok (.aload_n 0, 1) := by decide +kernel
theorem dX7_init_23 : decode cX7_init 23 = .ok (.iconst (-1), 1) := by decide +kernel
theorem dX7_init_24 : decode cX7_init 24 = .ok (.putfield 16, 3) := by decide +kernel
theorem dX7_init_27 : decode cX7_init 27 = .ok (.aload_n 0, 1) := by decide +kernel
theorem dX7_init_28 : decode cX7_init 28 = .ok (.iconst 2, 1) := by decide +kernel
theorem dX7_init_29 : decode cX7_init 29 = .ok (.newarray .int, 2) := by decide +kernel
theorem dX7_init_31 : decode cX7_init 31 = .ok (.putfield 20, 3) := by decide +kernel
theorem dX7_init_34 : decode cX7_init 34 = .ok (.aload_n 0, 1) := by decide +kernel
theorem dX7_init_35 : decode cX7_init 35 = .ok (.iconst 2, 1) := by decide +kernel
theorem dX7_init_36 : decode cX7_init 36 = .ok (.newarray .int, 2) := by decide +kernel
theorem dX7_init_38 : decode cX7_init 38 = .ok (.putfield 24, 3) := by decide +kernel
theorem dX7_init_41 : decode cX7_init 41 = .ok (.aload_n 0, 1) := by decide +kernel
theorem dX7_init_42 : decode cX7_init 42 = .ok (.iconst 2, 1) := by decide +kernel
theorem dX7_init_43 : decode cX7_init 43 = .ok (.newarray .int, 2) := by decide +kernel
theorem dX7_init_45 : decode cX7_init 45 = .ok (.putfield 27, 3) := by decide +kernel
theorem dX7_init_48 : decode cX7_init 48 = .ok (.aload_n 0, 1) := by decide +kernel
theorem dX7_init_49 : decode cX7_init 49 = .ok (.iconst 2, 1) := by decide +kernel
theorem dX7_init_50 : decode cX7_init 50 = .ok (.newarray .int, 2) := by decide +kernel
theorem dX7_init_52 : decode cX7_init 52 = .ok (.putfield 30, 3) := by decide +kernel
theorem dX7_init_55 : decode cX7_init 55 = .ok (.aload_n 0, 1) := by decide +kernel
theorem dX7_init_56 : decode cX7_init 56 = .ok (.iconst 2, 1) := by decide +kernel
theorem dX7_init_57 : decode cX7_init 57 = .ok (.newarray .int, 2) := by decide +kernel
theorem dX7_init_59 : decode cX7_init 59 = .ok (.putfield 33, 3) := by decide +kernel
theorem dX7_init_62 : decode cX7_init 62 = .ok (.aload_n 0, 1) := by decide +kernel
theorem dX7_init_63 : decode cX7_init 63 = .ok (.iconst 2, 1) := by decide +kernel
theorem dX7_init_64 : decode cX7_init 64 = .ok (.newarray .int, 2) := by decide +kernel
theorem dX7_init_66 : decode cX7_init 66 = .ok (.putfield 36, 3) := by decide +kernel
theorem dX7_init_69 : decode cX7_init 69 = .ok (.aload_n 0, 1) := by decide +kernel
theorem dX7_init_70 : decode cX7_init 70 = .ok (.iconst 2, 1) := by decide +kernel
theorem dX7_init_71 : decode cX7_init 71 = .ok (.newarray .int, 2) := by decide +kernel
theorem dX7_init_73 : decode cX7_init 73 = .ok (.putfield 39, 3) := by decide +kernel
theorem dX7_init_76 : decode cX7_init 76 = .ok (.aload_n 0, 1) := by decide +kernel
theorem dX7_init_77 : decode cX7_init 77 = .ok (.iconst 2, 1) := by decide +kernel
theorem dX7_init_78 : decode cX7_init 78 = .ok (.newarray .int, 2) := by decide +kernel
theorem dX7_init_80 : decode cX7_init 80 = .ok (.putfield 42, 3) := by decide +kernel
theorem dX7_init_83 : decode cX7_init 83 = .ok (.aload_n 0, 1) := by decide +kernel
theorem dX7_init_84 : decode cX7_init 84 = .ok (.bipush 12, 2) := by decide +kernel
theorem dX7_init_86 : decode cX7_init 86 = .ok (.newarray .int, 2) := by decide +kernel
theorem dX7_init_88 : decode cX7_init 88 = .ok (.putfield 45, 3) := by decide +kernel
theorem dX7_init_91 : decode cX7_init 91 = .ok (.aload_n 0, 1) := by decide +kernel
theorem dX7_init_92 : decode cX7_init 92 = .ok (.iconst 2, 1) := by decide +kernel
theorem dX7_init_93 : decode cX7_init 93 = .ok (.newarray .int, 2) := by decide +kernel
theorem dX7_init_95 : decode cX7_init 95 = .ok (.putfield 48, 3) := by decide +kernel
theorem dX7_init_98 : decode cX7_init 98 = .ok (.aload_n 0, 1) := by decide +kernel
theorem dX7_init_99 : decode cX7_init 99 = .ok (.iconst 2, 1) := by decide +kernel
theorem dX7_init_100 : decode cX7_init 100 = .ok (.newarray .int, 2) := by decide +kernel
theorem dX7_init_102 : decode cX7_init 102 = .ok (.putfield 51, 3) := by decide +kernel
theorem dX7_init_105 : decode cX7_init 105 = .ok (.aload_n 0, 1) := by decide +kernel
theorem dX7_init_106 : decode cX7_init 106 = .ok (.bipush 16, 2) := by decide +kernel
theorem dX7_init_108 : decode cX7_init 108 = .ok (.newarray .long, 2) := by decide +kernel
theorem dX7_init_110 : decode cX7_init 110 = .ok (.putfield 54, 3) := by decide +kernel
theorem dX7_init_113 : decode cX7_init 113 = .ok (.aload_n 0, 1) := by decide +kernel
theorem dX7_init_114 : decode cX7_init 114 = .ok (.bipush 8, 2) := by decide +kernel
theorem dX7_init_116 : decode cX7_init 116 = .ok (.newarray .long, 2) := by decide +kernel
theorem dX7_init_118 : decode cX7_init 118 = .ok (.putfield 58, 3) := by decide +kernel
theorem dX7_init_121 : decode cX7_init 121 = .ok (.aload_n 0, 1) := by decide +kernel
theorem dX7_init_122 : decode cX7_init 122 = .ok (.sipush 1120, 3) := by decide +kernel
theorem dX7_init_125 : decode cX7_init 125 = .ok (.newarray .int, 2) := by decide +kernel
theorem dX7_init_127 : decode cX7_init 127 = .ok (.putfield 61, 3) := by decide +kernel
theorem dX7_init_130 : decode cX7_init 130 = .ok (.aload_n 0, 1) := by decide +kernel
theorem dX7_init_131 : decode cX7_init 131 = .ok (.sipush 1120, 3) := by decide +kernel
theorem dX7_init_134 : decode cX7_init 134 = .ok (.newarray .int, 2) := by decide +kernel
theorem dX7_init_136 : decode cX7_init 136 = .ok (.putfield 64, 3) := by decide +kernel
theorem dX7_init_139 : decode cX7_init 139 = .ok (.aload_n 0, 1) := by decide +kernel
theorem dX7_init_140 : decode cX7_init 140 = .ok (.bipush 90, 2) := by decide +kernel
theorem dX7_init_142 : decode cX7_init 142 = .ok (.newarray .int, 2) := by decide +kernel
theorem dX7_init_144 : decode cX7_init 144 = .ok (.putfield 67, 3) := by decide +kernel
theorem dX7_init_147 : decode cX7_init 147 = .ok (.aload_n 0, 1) := by decide +kernel
theorem dX7_init_148 : decode cX7_init 148 = .ok (.bipush 90, 2) := by decide +kernel
theorem dX7_init_150 : decode cX7_init 150 = .ok (.newarray .int, 2) := by decide +kernel
theorem dX7_init_152 : decode cX7_init 152 = .ok (.putfield 70, 3) := by decide +kernel
theorem dX7_init_155 : decode cX7_init 155 = .ok (.aload_n 0, 1) := by decide +kernel
theorem dX7_init_156 : decode cX7_init 156 = .ok (.bipush 60, 2) := by decide +kernel
theorem dX7_init_158 : decode cX7_init 158 = .ok (.newarray .int, 2) := by decide +kernel
theorem dX7_init_160 : decode cX7_init 160 = .ok (.putfield 73, 3) := by decide +kernel
theorem dX7_init_163 : decode cX7_init 163 = .ok (.aload_n 0, 1) := by decide +kernel
theorem dX7_init_164 : decode cX7_init 164 = .ok (.sipush 520, 3) := by decide +kernel
theorem dX7_init_167 : decode cX7_init 167 = .ok (.newarray .int, 2) := by decide +kernel
theorem dX7_init_169 : decode cX7_init 169 = .ok (.putfield 76, 3) := by decide +kernel
theorem dX7_init_172 : decode cX7_init 172 = .ok (.aload_n 0, 1) := by decide +kernel
theorem dX7_init_173 : decode cX7_init 173 = .ok (.sipush 520, 3) := by decide +kernel
theorem dX7_init_176 : decode cX7_init 176 = .ok (.newarray .int, 2) := by decide +kernel
theorem dX7_init_178 : decode cX7_init 178 = .ok (.putfield 79, 3) := by decide +kernel
theorem dX7_init_181 : decode cX7_init 181 = .ok (.aload_n 0, 1) := by decide +kernel
theorem dX7_init_182 : decode cX7_init 182 = .ok (.sipush 21320, 3) := by decide +kernel
theorem dX7_init_185 : decode cX7_init 185 = .ok (.newarray .int, 2) := by decide +kernel
theorem dX7_init_187 : decode cX7_init 187 = .ok (.putfield 82, 3) := by decide +kernel
theorem dX7_init_190 : decode cX7_init 190 = .ok (.aload_n 0, 1) := by decide +kernel
theorem dX7_init_191 : decode cX7_init 191 = .ok (.bipush 6, 2) := by decide +kernel
theorem dX7_init_193 : decode cX7_init 193 = .ok (.newarray .int, 2) := by decide +kernel
theorem dX7_init_195 : decode cX7_init 195 = .ok (.putfield 85, 3) := by decide +kernel
theorem dX7_init_198 : decode cX7_init 198 = .ok (.aload_n 0, 1) := by decide +kernel
theorem dX7_init_199 : decode cX7_init 199 = .ok (.bipush 6, 2) := by decide +kernel
theorem dX7_init_201 : decode cX7_init 201 = .ok (.newarray .int, 2) := by decide +kernel
theorem dX7_init_203 : decode cX7_init 203 = .ok (.putfield 88, 3) := by decide +kernel
theorem dX7_init_206 : decode cX7_init 206 = .ok (.aload_n 0, 1) := by decide +kernel
theorem dX7_init_207 : decode cX7_init 207 = .ok (.sipush 427, 3) := by decide +kernel
theorem dX7_init_210 : decode cX7_init 210 = .ok (.newarray .int, 2) := by decide +kernel
theorem dX7_init_212 : decode cX7_init 212 = .ok (.putfield 91, 3) := by decide +kernel
theorem dX7_init_215 : decode cX7_init 215 = .ok (.aload_n 0, 1) := by decide +kernel
theorem dX7_init_216 : decode cX7_init 216 = .ok (.bipush 30, 2) := by decide +kernel
theorem dX7_init_218 : decode cX7_init 218 = .ok (.newarray .int, 2) := by decide +kernel
theorem dX7_init_220 : decode cX7_init 220 = .ok (.putfield 94, 3) := by decide +kernel
theorem dX7_init_223 : decode cX7_init 223 = .ok (.aload_n 0, 1) := by decide +kernel
theorem dX7_init_224 : decode cX7_init 224 = .ok (.bipush 30, 2) := by decide +kernel
theorem dX7_init_226 : decode cX7_init 226 = .ok (.newarray .int, 2) := by decide +kernel
theorem dX7_init_228 : decode cX7_init 228 = .ok (.putfield 97, 3) := by decide +kernel
theorem dX7_init_231 : decode cX7_init 231 = .ok (.aload_n 0, 1) := by decide +kernel
theorem dX7_init_232 : decode cX7_init 232 = .ok (.bipush 30, 2) := by decide +kernel
theorem dX7_init_234 : decode cX7_init 234 = .ok (.newarray .int, 2) := by decide +kernel
theorem dX7_init_236 : decode cX7_init 236 = .ok (.putfield 100, 3) := by decide +kernel
theorem dX7_init_239 : decode cX7_init 239 = .ok (.aload_n 0, 1) := by decide +kernel
theorem dX7_init_240 : decode cX7_init 240 = .ok (.bipush 30, 2) := by decide +kernel
theorem dX7_init_242 : decode cX7_init 242 = .ok (.newarray .int, 2) := by decide +kernel
theorem dX7_init_244 : decode cX7_init 244 = .ok (.putfield 103, 3) := by decide +kernel
theorem dX7_init_247 : decode cX7_init 247 = .ok (.aload_n 0, 1) := by decide +kernel
theorem dX7_init_248 : decode cX7_init 248 = .ok (.sipush 1560, 3) := by decide +kernel
theorem dX7_init_251 : decode cX7_init 251 = .ok (.newarray .int, 2) := by decide +kernel
theorem dX7_init_253 : decode cX7_init 253 = .ok (.putfield 106, 3) := by decide +kernel
theorem dX7_init_256 : decode cX7_init 256 = .ok (.aload_n 0, 1) := by decide +kernel
theorem dX7_init_257 : decode cX7_init 257 = .ok (.iconst 3, 1) := by decide +kernel
theorem dX7_init_258 : decode cX7_init 258 = .ok (.newarray .boolean, 2) := by decide +kernel
theorem dX7_init_260 : decode cX7_init 260 = .ok (.putfield 109, 3) := by decide +kernel
theorem dX7_init_263 : decode cX7_init 263 = .ok (.aload_n 0, 1) := by decide +kernel
theorem dX7_init_264 : decode cX7_init 264 = .ok (.invokevirtual 113, 3) := by decide +kernel
theorem dX7_init_267 : decode cX7_init 267 = .ok (.aload_n 0, 1) := by decide +kernel
theorem dX7_init_268 : decode cX7_init 268 = .ok (.invokevirtual 116, 3) := by decide +kernel
theorem dX7_init_271 : decode cX7_init 271 = .ok (.return_, 1) := by decide +kernel
theorem dL_law_256 : decode cL_law 256 = .ok (.aload_n 1, 1) := by decide +kernel
theorem dL_law_257 : decode cL_law 257 = .ok (.aload_n 0, 1) := by decide +kernel
theorem dL_law_258 : decode cL_law 258 = .ok (.iload_n 3, 1) := by decide +kernel
theorem dL_law_259 : decode cL_law 259 = .ok (.iconst 1, 1) := by decide +kernel
theorem dL_law_260 : decode cL_law 260 = .ok (.iadd, 1) := by decide +kernel
theorem dL_law_261 : decode cL_law 261 = .ok (.iaload, 1) := by decide +kernel
theorem dL_law_262 : decode cL_law 262 = .ok (.aload_n 0, 1) := by decide +kernel
theorem dL_law_263 : decode cL_law 263 = .ok (.iload_n 3, 1) := by decide +kernel
theorem dL_law_264 : decode cL_law 264 = .ok (.iconst 2, 1) := by decide +kernel
theorem dL_law_265 : decode cL_law 265 = .ok (.iadd, 1) := by decide +kernel
theorem dL_law_266 : decode cL_law 266 = .ok (.iaload, 1) := by decide +kernel
theorem dL_law_267 : decode cL_law 267 = .ok (.aload_n 0, 1) := by decide +kernel
theorem dL_law_268 : decode cL_law 268 = .ok (.iload_n 3, 1) := by decide +kernel
theorem dL_law_269 : decode cL_law 269 = .ok (.iconst 3, 1) := by decide +kernel
theorem dL_law_270 : decode cL_law 270 = .ok (.iadd, 1) := by decide +kernel
theorem dL_law_271 : decode cL_law 271 = .ok (.iaload, 1) := by decide +kernel
theorem dL_law_272 : decode cL_law 272 = .ok (.aload_n 0, 1) := by decide +kernel
theorem dL_law_273 : decode cL_law 273 = .ok (.iload_n 3, 1) := by decide +kernel
theorem dL_law_274 : decode cL_law 274 = .ok (.iconst 4, 1) := by decide +kernel
theorem dL_law_275 : decode cL_law 275 = .ok (.iadd, 1) := by decide +kernel
theorem dL_law_276 : decode cL_law 276 = .ok (.iaload, 1) := by decide +kernel
theorem dL_law_277 : decode cL_law 277 = .ok (.aload_n 0, 1) := by decide +kernel
theorem dL_law_278 : decode cL_law 278 = .ok (.iload_n 3, 1) := by decide +kernel
theorem dL_law_279 : decode cL_law 279 = .ok (.iconst 5, 1) := by decide +kernel
theorem dL_law_280 : decode cL_law 280 = .ok (.iadd, 1) := by decide +kernel
theorem dL_law_281 : decode cL_law 281 = .ok (.iaload, 1) := by decide +kernel
theorem dL_law_282 : decode cL_law 282 = .ok (.invokevirtual 13, 3) := by decide +kernel
theorem dL_law_285 : decode cL_law 285 = .ok (.aload_n 2, 1) := by decide +kernel
theorem dL_law_286 : decode cL_law 286 = .ok (.aload_n 0, 1) := by decide +kernel
theorem dL_law_287 : decode cL_law 287 = .ok (.iload_n 3, 1) := by decide +kernel
theorem dL_law_288 : decode cL_law 288 = .ok (.iconst 1, 1) := by decide +kernel
theorem dL_law_289 : decode cL_law 289 = .ok (.iadd, 1) := by decide +kernel
theorem dL_law_290 : decode cL_law 290 = .ok (.iaload, 1) := by decide +kernel
theorem dL_law_291 : decode cL_law 291 = .ok (.aload_n 0, 1) := by decide +kernel
theorem dL_law_292 : decode cL_law 292 = .ok (.iload_n 3, 1) := by decide +kernel
theorem dL_law_293 : decode cL_law 293 = .ok (.iconst 2, 1) := by decide +kernel
theorem dL_law_294 : decode cL_law 294 = .ok (.iadd, 1) := by decide +kernel
theorem dL_law_295 : decode cL_law 295 = .ok (.iaload, 1) := by decide +kernel
theorem dL_law_296 : decode cL_law 296 = .ok (.aload_n 0, 1) := by decide +kernel
theorem dL_law_297 : decode cL_law 297 = .ok (.iload_n 3, 1) := by decide +kernel
theorem dL_law_298 : decode cL_law 298 = .ok (.iconst 3, 1) := by decide +kernel
theorem dL_law_299 : decode cL_law 299 = .ok (.iadd, 1) := by decide +kernel
theorem dL_law_300 : decode cL_law 300 = .ok (.iaload, 1) := by decide +kernel
theorem dL_law_301 : decode cL_law 301 = .ok (.aload_n 0, 1) := by decide +kernel
theorem dL_law_302 : decode cL_law 302 = .ok (.iload_n 3, 1) := by decide +kernel
theorem dL_law_303 : decode cL_law 303 = .ok (.iconst 4, 1) := by decide +kernel
theorem dL_law_304 : decode cL_law 304 = .ok (.iadd, 1) := by decide +kernel
theorem dL_law_305 : decode cL_law 305 = .ok (.iaload, 1) := by decide +kernel
theorem dL_law_306 : decode cL_law 306 = .ok (.aload_n 0, 1) := by decide +kernel
theorem dL_law_307 : decode cL_law 307 = .ok (.iload_n 3, 1) := by decide +kernel
theorem dL_law_308 : decode cL_law 308 = .ok (.iconst 5, 1) := by decide +kernel
theorem dL_law_309 : decode cL_law 309 = .ok (.iadd, 1) := by decide +kernel
theorem dL_law_310 : decode cL_law 310 = .ok (.iaload, 1) := by decide +kernel
theorem dL_law_311 : decode cL_law 311 = .ok (.invokevirtual 17, 3) := by decide +kernel
theorem dL_law_314 : decode cL_law 314 = .ok (.if_icmp .eq 1234, 3) := by decide +kernel
theorem dL_law_319 : decode cL_law 319 = .ok (.aload_n 1, 1) := by decide +kernel
theorem dL_law_320 : decode cL_law 320 = .ok (.aload_n 0, 1) := by decide +kernel
theorem dL_law_321 : decode cL_law 321 = .ok (.iload_n 3, 1) := by decide +kernel
theorem dL_law_322 : decode cL_law 322 = .ok (.iconst 1, 1) := by decide +kernel
theorem dL_law_323 : decode cL_law 323 = .ok (.iadd, 1) := by decide +kernel
theorem dL_law_324 : decode cL_law 324 = .ok (.iaload, 1) := by decide +kernel
theorem dL_law_325 : decode cL_law 325 = .ok (.invokevirtual 18, 3) := by decide +kernel
theorem dL_law_328 : decode cL_law 328 = .ok (.aload_n 2, 1) := by decide +kernel
theorem dL_law_329 : decode cL_law 329 = .ok (.aload_n 0, 1) := by decide +kernel
theorem dL_law_330 : decode cL_law 330 = .ok (.iload_n 3, 1) := by decide +kernel
theorem dL_law_331 : decode cL_law 331 = .ok (.iconst 1, 1) := by decide +kernel
theorem dL_law_332 : decode cL_law 332 = .ok (.iadd, 1) := by decide +kernel
theorem dL_law_333 : decode cL_law 333 = .ok (.iaload, 1) := by decide +kernel
theorem dL_law_334 : decode cL_law 334 = .ok (.invokevirtual 22, 3) := by decide +kernel
theorem dL_law_337 : decode cL_law 337 = .ok (.if_icmp .eq 1211, 3) := by decide +kernel
theorem dL_law_342 : decode cL_law 342 = .ok (.aload_n 1, 1) := by decide +kernel
theorem dL_law_343 : decode cL_law 343 = .ok (.invokevirtual 23, 3) := by decide +kernel
theorem dL_law_346 : decode cL_law 346 = .ok (.aload_n 2, 1) := by decide +kernel
theorem dL_law_347 : decode cL_law 347 = .ok (.invokevirtual 27, 3) := by decide +kernel
theorem dL_law_350 : decode cL_law 350 = .ok (.if_icmp .eq 1198, 3) := by decide +kernel
theorem dL_law_355 : decode cL_law 355 = .ok (.aload_n 1, 1) := by decide +kernel
theorem dL_law_356 : decode cL_law 356 = .ok (.aload_n 0, 1) := by decide +kernel
theorem dL_law_357 : decode cL_law 357 = .ok (.iload_n 3, 1) := by decide +kernel
theorem dL_law_358 : decode cL_law 358 = .ok (.iconst 1, 1) := by decide +kernel
theorem dL_law_359 : decode cL_law 359 = .ok (.iadd, 1) := by decide +kernel
theorem dL_law_360 : decode cL_law 360 = .ok (.iaload, 1) := by decide +kernel
theorem dL_law_361 : decode cL_law 361 = .ok (.invokevirtual 28, 3) := by decide +kernel
theorem dL_law_364 : decode cL_law 364 = .ok (.aload_n 2, 1) := by decide +kernel
theorem dL_law_365 : decode cL_law 365 = .ok (.aload_n 0, 1) := by decide +kernel
theorem dL_law_366 : decode cL_law 366 = .ok (.iload_n 3, 1) := by decide +kernel
theorem dL_law_367 : decode cL_law 367 = .ok (.iconst 1, 1) := by decide +kernel
theorem dL_law_368 : decode cL_law 368 = .ok (.iadd, 1) := by decide +kernel
theorem dL_law_369 : decode cL_law 369 = .ok (.iaload, 1) := by decide +kernel
theorem dL_law_370 : decode cL_law 370 = .ok (.invokevirtual 31, 3) := by decide +kernel
theorem dL_law_373 : decode cL_law 373 = .ok (.if_icmp .eq 1175, 3) := by decide +kernel
theorem dL_law_378 : decode cL_law 378 = .ok (.aload_n 1, 1) := by decide +kernel
theorem dL_law_379 : decode cL_law 379 = .ok (.aload_n 0, 1) := by decide +kernel
theorem dL_law_380 : decode cL_law 380 = .ok (.iload_n 3, 1) := by decide +kernel
theorem dL_law_381 : decode cL_law 381 = .ok (.iconst 1, 1) := by decide +kernel
theorem dL_law_382 : decode cL_law 382 = .ok (.iadd, 1) := by decide +kernel
theorem dL_law_383 : decode cL_law 383 = .ok (.iaload, 1) := by decide +kernel
theorem dL_law_384 : decode cL_law 384 = .ok (.invokevirtual 32, 3) := by decide +kernel
theorem dL_law_387 : decode cL_law 387 = .ok (.aload_n 2, 1) := by decide +kernel
theorem dL_law_388 : decode cL_law 388 = .ok (.aload_n 0, 1) := by decide +kernel
theorem dL_law_389 : decode cL_law 389 = .ok (.iload_n 3, 1) := by decide +kernel
theorem dL_law_390 : decode cL_law 390 = .ok (.iconst 1, 1) := by decide +kernel
theorem dL_law_391 : decode cL_law 391 = .ok (.iadd, 1) := by decide +kernel
theorem dL_law_392 : decode cL_law 392 = .ok (.iaload, 1) := by decide +kernel
theorem dL_law_393 : decode cL_law 393 = .ok (.invokevirtual 35, 3) := by decide +kernel
theorem dL_law_396 : decode cL_law 396 = .ok (.if_icmp .eq 1152, 3) := by decide +kernel
theorem dL_law_401 : decode cL_law 401 = .ok (.aload_n 1, 1) := by decide +kernel
theorem dL_law_402 : decode cL_law 402 = .ok (.aload_n 0, 1) := by decide +kernel
theorem dL_law_403 : decode cL_law 403 = .ok (.iload_n 3, 1) := by decide +kernel
theorem dL_law_404 : decode cL_law 404 = .ok (.iconst 1, 1) := by decide +kernel
theorem dL_law_405 : decode cL_law 405 = .ok (.iadd, 1) := by decide +kernel
theorem dL_law_406 : decode cL_law 406 = .ok (.iaload, 1) := by decide +kernel
theorem dL_law_407 : decode cL_law 407 = .ok (.aload_n 0, 1) := by decide +kernel
theorem dL_law_408 : decode cL_law 408 = .ok (.iload_n 3, 1) := by decide +kernel
theorem dL_law_409 : decode cL_law 409 = .ok (.iconst 2, 1) := by decide +kernel
theorem dL_law_410 : decode cL_law 410 = .ok (.iadd, 1) := by decide +kernel
theorem dL_law_411 : decode cL_law 411 = .ok (.iaload, 1) := by decide +kernel
theorem dL_law_412 : decode cL_law 412 = .ok (.invokevirtual 36, 3) := by decide +kernel
theorem dL_law_415 : decode cL_law 415 = .ok (.aload_n 2, 1) := by decide +kernel
theorem dL_law_416 : decode cL_law 416 = .ok (.aload_n 0, 1) := by decide +kernel
theorem dL_law_417 : decode cL_law 417 = .ok (.iload_n 3, 1) := by decide +kernel
theorem dL_law_418 : decode cL_law 418 = .ok (.iconst 1, 1) := by decide +kernel
theorem dL_law_419 : decode cL_law 419 = .ok (.iadd, 1) := by decide +kernel
theorem dL_law_420 : decode cL_law 420 = .ok (.iaload, 1) := by decide +kernel
theorem dL_law_421 : decode cL_law 421 = .ok (.aload_n 0, 1) := by decide +kernel
theorem dL_law_422 : decode cL_law 422 = .ok (.iload_n 3, 1) := by decide +kernel
theorem dL_law_423 : decode cL_law 423 = .ok (.iconst 2, 1) := by decide +kernel
theorem dL_law_424 : decode cL_law 424 = .ok (.iadd, 1) := by decide +kernel
theorem dL_law_425 : decode cL_law 425 = .ok (.iaload, 1) := by decide +kernel
theorem dL_law_426 : decode cL_law 426 = .ok (.invokevirtual 40, 3) := by decide +kernel
theorem dL_law_429 : decode cL_law 429 = .ok (.if_icmp .eq 1119, 3) := by decide +kernel
theorem dL_law_434 : decode cL_law 434 = .ok (.aload_n 1, 1) := by decide +kernel
theorem dL_law_435 : decode cL_law 435 = .ok (.aload_n 0, 1) := by decide +kernel
theorem dL_law_436 : decode cL_law 436 = .ok (.iload_n 3, 1) := by decide +kernel
theorem dL_law_437 : decode cL_law 437 = .ok (.iconst 1, 1) := by decide +kernel
theorem dL_law_438 : decode cL_law 438 = .ok (.iadd, 1) := by decide +kernel
theorem dL_law_439 : decode cL_law 439 = .ok (.iaload, 1) := by decide +kernel
theorem dL_law_440 : decode cL_law 440 = .ok (.aload_n 0, 1) := by decide +kernel
theorem dL_law_441 : decode cL_law 441 = .ok (.iload_n 3, 1) := by decide +kernel
theorem dL_law_442 : decode cL_law 442 = .ok (.iconst 2, 1) := by decide +kernel
theorem dL_law_443 : decode cL_law 443 = .ok (.iadd, 1) := by decide +kernel
theorem dL_law_444 : decode cL_law 444 = .ok (.iaload, 1) := by decide +kernel
theorem dL_law_445 : decode cL_law 445 = .ok (.invokevirtual 41, 3) := by decide +kernel
theorem dL_law_448 : decode cL_law 448 = .ok (.aload_n 2, 1) := by decide +kernel
theorem dL_law_449 : decode cL_law 449 = .ok (.aload_n 0, 1) := by decide +kernel
theorem dL_law_450 : decode cL_law 450 = .ok (.iload_n 3, 1) := by decide +kernel
theorem dL_law_451 : decode cL_law 451 = .ok (.iconst 1, 1) := by decide +kernel
theorem dL_law_452 : decode cL_law 452 = .ok (.iadd, 1) := by decide +kernel
theorem dL_law_453 : decode cL_law 453 = .ok (.iaload, 1) := by decide +kernel
theorem dL_law_454 : decode cL_law 454 = .ok (.aload_n 0, 1) := by decide +kernel
theorem dL_law_455 : decode cL_law 455 = .ok (.iload_n 3, 1) := by decide +kernel
theorem dL_law_456 : decode cL_law 456 = .ok (.iconst 2, 1) := by decide +kernel
theorem dL_law_457 : decode cL_law 457 = .ok (.iadd, 1) := by decide +kernel
theorem dL_law_458 : decode cL_law 458 = .ok (.iaload, 1) := by decide +kernel
theorem dL_law_459 : decode cL_law 459 = .ok (.invokevirtual 44, 3) := by decide +kernel
theorem dL_law_462 : decode cL_law 462 = .ok (.if_icmp .eq 1086, 3) := by decide +kernel
theorem dL_law_467 : decode cL_law 467 = .ok (.aload_n 1, 1) := by decide +kernel
theorem dL_law_468 : decode cL_law 468 = .ok (.aload_n 0, 1) := by decide +kernel
theorem dL_law_469 : decode cL_law 469 = .ok (.iload_n 3, 1) := by decide +kernel
theorem dL_law_470 : decode cL_law 470 = .ok (.iconst 1, 1) := by decide +kernel
theorem dL_law_471 : decode cL_law 471 = .ok (.iadd, 1) := by decide +kernel
theorem dL_law_472 : decode cL_law 472 = .ok (.iaload, 1) := by decide +kernel
theorem dL_law_473 : decode cL_law 473 = .ok (.aload_n 0, 1) := by decide +kernel
theorem dL_law_474 : decode cL_law 474 = .ok (.iload_n 3, 1) := by decide +kernel
theorem dL_law_475 : decode cL_law 475 = .ok (.iconst 2, 1) := by decide +kernel
theorem dL_law_476 : decode cL_law 476 = .ok (.iadd, 1) := by decide +kernel
theorem dL_law_477 : decode cL_law 477 = .ok (.iaload, 1) := by decide +kernel
theorem dL_law_478 : decode cL_law 478 = .ok (.invokevirtual 45, 3) := by decide +kernel
theorem dL_law_481 : decode cL_law 481 = .ok (.aload_n 2, 1) := by decide +kernel
theorem dL_law_482 : decode cL_law 482 = .ok (.aload_n 0, 1) := by decide +kernel
theorem dL_law_483 : decode cL_law 483 = .ok (.iload_n 3, 1) := by decide +kernel
theorem dL_law_484 : decode cL_law 484 = .ok (.iconst 1, 1) := by decide +kernel
theorem dL_law_485 : decode cL_law 485 = .ok (.iadd, 1) := by decide +kernel
theorem dL_law_486 : decode cL_law 486 = .ok (.iaload, 1) := by decide +kernel
theorem dL_law_487 : decode cL_law 487 = .ok (.aload_n 0, 1) := by decide +kernel
theorem dL_law_488 : decode cL_law 488 = .ok (.iload_n 3, 1) := by decide +kernel
theorem dL_law_489 : decode cL_law 489 = .ok (.iconst 2, 1) := by decide +kernel
theorem dL_law_490 : decode cL_law 490 = .ok (.iadd, 1) := by decide +kernel
theorem dL_law_491 : decode cL_law 491 = .ok (.iaload, 1) := by decide +kernel
theorem dL_law_492 : decode cL_law 492 = .ok (.invokevirtual 48, 3) := by decide +kernel
theorem dL_law_495 : decode cL_law 495 = .ok (.if_icmp .eq 1053, 3) := by decide +kernel
theorem dL_law_500 : decode cL_law 500 = .ok (.aload_n 1, 1) := by decide +kernel
theorem dL_law_501 : decode cL_law 501 = .ok (.aload_n 0, 1) := by decide +kernel
theorem dL_law_502 : decode cL_law 502 = .ok (.iload_n 3, 1) := by decide +kernel
theorem dL_law_503 : decode cL_law 503 = .ok (.iconst 1, 1) := by decide +kernel
theorem dL_law_504 : decode cL_law 504 = .ok (.iadd, 1) := by decide +kernel
theorem dL_law_505 : decode cL_law 505 = .ok (.iaload, 1) := by decide +kernel
theorem dL_law_506 : decode cL_law 506 = .ok (.aload_n 0, 1) := by decide +kernel
theorem dL_law_507 : decode cL_law 507 = .ok (.iload_n 3, 1) := by decide +kernel
theorem dL_law_508 : decode cL_law 508 = .ok (.iconst 2, 1) := by decide +kernel
theorem dL_law_509 : decode cL_law 509 = .ok (.iadd, 1) := by decide +kernel
theorem dL_law_510 : decode cL_law 510 = .ok (.iaload, 1) := by decide +kernel
theorem dL_law_511 : decode cL_law 511 = .ok (.invokevirtual 49, 3) := by decide +kernel
theorem dL_law_514 : decode cL_law 514 = .ok (.aload_n 2, 1) := by decide +kernel
theorem dL_law_515 : decode cL_law 515 = .ok (.aload_n 0, 1) := by decide +kernel
theorem dL_law_516 : decode cL_law 516 = .ok (.iload_n 3, 1) := by decide +kernel
theorem dL_law_517 : decode cL_law 517 = .ok (.iconst 1, 1) := by decide +kernel
theorem dL_law_518 : decode cL_law 518 = .ok (.iadd, 1) := by decide +kernel
theorem dL_law_519 : decode cL_law 519 = .ok (.iaload, 1) := by decide +kernel
theorem dL_law_520 : decode cL_law 520 = .ok (.aload_n 0, 1) := by decide +kernel
theorem dL_law_521 : decode cL_law 521 = .ok (.iload_n 3, 1) := by decide +kernel
theorem dL_law_522 : decode cL_law 522 = .ok (.iconst 2, 1) := by decide +kernel
theorem dL_law_523 : decode cL_law 523 = .ok (.iadd, 1) := by decide +kernel
theorem dL_law_524 : decode cL_law 524 = .ok (.iaload, 1) := by decide +kernel
theorem dL_law_525 : decode cL_law 525 = .ok (.invokevirtual 52, 3) := by decide +kernel
theorem dL_law_528 : decode cL_law 528 = .ok (.if_icmp .eq 1020, 3) := by decide +kernel
theorem dL_law_533 : decode cL_law 533 = .ok (.aload_n 1, 1) := by decide +kernel
theorem dL_law_534 : decode cL_law 534 = .ok (.aload_n 0, 1) := by decide +kernel
theorem dL_law_535 : decode cL_law 535 = .ok (.iload_n 3, 1) := by decide +kernel
theorem dL_law_536 : decode cL_law 536 = .ok (.iconst 1, 1) := by decide +kernel
theorem dL_law_537 : decode cL_law 537 = .ok (.iadd, 1) := by decide +kernel
theorem dL_law_538 : decode cL_law 538 = .ok (.iaload, 1) := by decide +kernel
theorem dL_law_539 : decode cL_law 539 = .ok (.aload_n 0, 1) := by decide +kernel
theorem dL_law_540 : decode cL_law 540 = .ok (.iload_n 3, 1) := by decide +kernel
theorem dL_law_541 : decode cL_law 541 = .ok (.iconst 2, 1) := by decide +kernel
theorem dL_law_542 : decode cL_law 542 = .ok (.iadd, 1) := by decide +kernel
theorem dL_law_543 : decode cL_law 543 = .ok (.iaload, 1) := by decide +kernel
theorem dL_law_544 : decode cL_law 544 = .ok (.invokevirtual 53, 3) := by decide +kernel
theorem dL_law_547 : decode cL_law 547 = .ok (.aload_n 2, 1) := by decide +kernel
theorem dL_law_548 : decode cL_law 548 = .ok (.aload_n 0, 1) := by decide +kernel
theorem dL_law_549 : decode cL_law 549 = .ok (.iload_n 3, 1) := by decide +kernel
theorem dL_law_550 : decode cL_law 550 = .ok (.iconst 1, 1) := by decide +kernel
theorem dL_law_551 : decode cL_law 551 = .ok (.iadd, 1) := by decide +kernel
theorem dL_law_552 : decode cL_law 552 = .ok (.iaload, 1) := by decide +kernel
theorem dL_law_553 : decode cL_law 553 = .ok (.aload_n 0, 1) := by decide +kernel
theorem dL_law_554 : decode cL_law 554 = .ok (.iload_n 3, 1) := by decide +kernel
theorem dL_law_555 : decode cL_law 555 = .ok (.iconst 2, 1) := by decide +kernel
theorem dL_law_556 : decode cL_law 556 = .ok (.iadd, 1) := by decide +kernel
theorem dL_law_557 : decode cL_law 557 = .ok (.iaload, 1) := by decide +kernel
theorem dL_law_558 : decode cL_law 558 = .ok (.invokevirtual 56, 3) := by decide +kernel
theorem dL_law_561 : decode cL_law 561 = .ok (.if_icmp .eq 987, 3) := by decide +kernel
theorem dL_law_566 : decode cL_law 566 = .ok (.aload_n 1, 1) := by decide +kernel
theorem dL_law_567 : decode cL_law 567 = .ok (.invokevirtual 57, 3) := by decide +kernel
theorem dL_law_570 : decode cL_law 570 = .ok (.aload_n 2, 1) := by decide +kernel
theorem dL_law_571 : decode cL_law 571 = .ok (.invokevirtual 60, 3) := by decide +kernel
theorem dL_law_574 : decode cL_law 574 = .ok (.if_icmp .eq 974, 3) := by decide +kernel
theorem dL_law_579 : decode cL_law 579 = .ok (.aload_n 1, 1) := by decide +kernel
theorem dL_law_580 : decode cL_law 580 = .ok (.aload_n 0, 1) := by decide +kernel
theorem dL_law_581 : decode cL_law 581 = .ok (.iload_n 3, 1) := by decide +kernel
theorem dL_law_582 : decode cL_law 582 = .ok (.iconst 1, 1) := by decide +kernel
theorem dL_law_583 : decode cL_law 583 = .ok (.iadd, 1) := by decide +kernel
theorem dL_law_584 : decode cL_law 584 = .ok (.iaload, 1) := by decide +kernel
theorem dL_law_585 : decode cL_law 585 = .ok (.invokevirtual 61, 3) := by decide +kernel
theorem dL_law_588 : decode cL_law 588 = .ok (.aload_n 2, 1) := by decide +kernel
theorem dL_law_589 : decode cL_law 589 = .ok (.aload_n 0, 1) := by decide +kernel
theorem dL_law_590 : decode cL_law 590 = .ok (.iload_n 3, 1) := by decide +kernel
theorem dL_law_591 : decode cL_law 591 = .ok (.iconst 1, 1) := by decide +kernel
theorem dL_law_592 : decode cL_law 592 = .ok (.iadd, 1) := by decide +kernel
theorem dL_law_593 : decode cL_law 593 = .ok (.iaload, 1) := by decide +kernel
theorem dL_law_594 : decode cL_law 594 = .ok (.invokevirtual 64, 3) := by decide +kernel
theorem dL_law_597 : decode cL_law 597 = .ok (.if_icmp .eq 951, 3) := by decide +kernel
theorem dL_law_602 : decode cL_law 602 = .ok (.aload_n 1, 1) := by decide +kernel
theorem dL_law_603 : decode cL_law 603 = .ok (.aload_n 0, 1) := by decide +kernel
theorem dL_law_604 : decode cL_law 604 = .ok (.iload_n 3, 1) := by decide +kernel
theorem dL_law_605 : decode cL_law 605 = .ok (.iconst 1, 1) := by decide +kernel
theorem dL_law_606 : decode cL_law 606 = .ok (.iadd, 1) := by decide +kernel
theorem dL_law_607 : decode cL_law 607 = .ok (.iaload, 1) := by decide +kernel
theorem dL_law_608 : decode cL_law 608 = .ok (.invokevirtual 65, 3) := by decide +kernel
theorem dL_law_611 : decode cL_law 611 = .ok (.aload_n 2, 1) := by decide +kernel
theorem dL_law_612 : decode cL_law 612 = .ok (.aload_n 0, 1) := by decide +kernel
theorem dL_law_613 : decode cL_law 613 = .ok (.iload_n 3, 1) := by decide +kernel
theorem dL_law_614 : decode cL_law 614 = .ok (.iconst 1, 1) := by decide +kernel
theorem dL_law_615 : decode cL_law 615 = .ok (.iadd, 1) := by decide +kernel
theorem dL_law_616 : decode cL_law 616 = .ok (.iaload, 1) := by decide +kernel
theorem dL_law_617 : decode cL_law 617 = .ok (.invokevirtual 68, 3) := by decide +kernel
theorem dL_law_620 : decode cL_law 620 = .ok (.if_icmp .eq 928, 3) := by decide +kernel
theorem dL_law_625 : decode cL_law 625 = .ok (.aload_n 1, 1) := by decide +kernel
theorem dL_law_626 : decode cL_law 626 = .ok (.invokevirtual 69, 3) := by decide +kernel
theorem dL_law_629 : decode cL_law 629 = .ok (.aload_n 2, 1) := by decide +kernel
theorem dL_law_630 : decode cL_law 630 = .ok (.invokevirtual 73, 3) := by decide +kernel
theorem dL_law_633 : decode cL_law 633 = .ok (.if_icmp .eq 915, 3) := by decide +kernel
theorem dL_law_638 : decode cL_law 638 = .ok (.aload_n 1, 1) := by decide +kernel
theorem dL_law_639 : decode cL_law 639 = .ok (.invokevirtual 74, 3) := by decide +kernel
theorem dL_law_642 : decode cL_law 642 = .ok (.aload_n 2, 1) := by decide +kernel
theorem dL_law_643 : decode cL_law 643 = .ok (.invokevirtual 77, 3) := by decide +kernel
theorem dL_law_646 : decode cL_law 646 = .ok (.if_icmp .eq 902, 3) := by decide +kernel
theorem dL_law_651 : decode cL_law 651 = .ok (.aload_n 1, 1) := by decide +kernel
theorem dL_law_652 : decode cL_law 652 = .ok (.aload_n 0, 1) := by decide +kernel
theorem dL_law_653 : decode cL_law 653 = .ok (.iload_n 3, 1) := by decide +kernel
theorem dL_law_654 : decode cL_law 654 = .ok (.iconst 1, 1) := by decide +kernel
theorem dL_law_655 : decode cL_law 655 = .ok (.iadd, 1) := by decide +kernel
theorem dL_law_656 : decode cL_law 656 = .ok (.iaload, 1) := by decide +kernel
theorem dL_law_657 : decode cL_law 657 = .ok (.aload_n 0, 1) := by decide +kernel
theorem dL_law_658 : decode cL_law 658 = .ok (.iload_n 3, 1) := by decide +kernel
theorem dL_law_659 : decode cL_law 659 = .ok (.iconst 2, 1) := by decide +kernel
theorem dL_law_660 : decode cL_law 660 = .ok (.iadd, 1) := by decide +kernel
theorem dL_law_661 : decode cL_law 661 = .ok (.iaload, 1) := by decide +kernel
theorem dL_law_662 : decode cL_law 662 = .ok (.invokevirtual 78, 3) := by decide +kernel
theorem dL_law_665 : decode cL_law 665 = .ok (.aload_n 2, 1) := by decide +kernel
theorem dL_law_666 : decode cL_law 666 = .ok (.aload_n 0, 1) := by decide +kernel
theorem dL_law_667 : decode cL_law 667 = .ok (.iload_n 3, 1) := by decide +kernel
theorem dL_law_668 : decode cL_law 668 = .ok (.iconst 1, 1) := by decide +kernel
theorem dL_law_669 : decode cL_law 669 = .ok (.iadd, 1) := by decide +kernel
theorem dL_law_670 : decode cL_law 670 = .ok (.iaload, 1) := by decide +kernel
theorem dL_law_671 : decode cL_law 671 = .ok (.aload_n 0, 1) := by decide +kernel
theorem dL_law_672 : decode cL_law 672 = .ok (.iload_n 3, 1) := by decide +kernel
theorem dL_law_673 : decode cL_law 673 = .ok (.iconst 2, 1) := by decide +kernel
theorem dL_law_674 : decode cL_law 674 = .ok (.iadd, 1) := by decide +kernel
theorem dL_law_675 : decode cL_law 675 = .ok (.iaload, 1) := by decide +kernel
theorem dL_law_676 : decode cL_law 676 = .ok (.invokevirtual 81, 3) := by decide +kernel
theorem dL_law_679 : decode cL_law 679 = .ok (.if_icmp .eq 869, 3) := by decide +kernel
theorem dL_law_684 : decode cL_law 684 = .ok (.aload_n 1, 1) := by decide +kernel
theorem dL_law_685 : decode cL_law 685 = .ok (.aload_n 0, 1) := by decide +kernel
theorem dL_law_686 : decode cL_law 686 = .ok (.iload_n 3, 1) := by decide +kernel
theorem dL_law_687 : decode cL_law 687 = .ok (.iconst 1, 1) := by decide +kernel
theorem dL_law_688 : decode cL_law 688 = .ok (.iadd, 1) := by decide +kernel
theorem dL_law_689 : decode cL_law 689 = .ok (.iaload, 1) := by decide +kernel
theorem dL_law_690 : decode cL_law 690 = .ok (.aload_n 0, 1) := by decide +kernel
theorem dL_law_691 : decode cL_law 691 = .ok (.iload_n 3, 1) := by decide +kernel
theorem dL_law_692 : decode cL_law 692 = .ok (.iconst 2, 1) := by decide +kernel
theorem dL_law_693 : decode cL_law 693 = .ok (.iadd, 1) := by decide +kernel
theorem dL_law_694 : decode cL_law 694 = .ok (.iaload, 1) := by decide +kernel
theorem dL_law_695 : decode cL_law 695 = .ok (.invokevirtual 82, 3) := by decide +kernel
theorem dL_law_698 : decode cL_law 698 = .ok (.aload_n 2, 1) := by decide +kernel
theorem dL_law_699 : decode cL_law 699 = .ok (.aload_n 0, 1) := by decide +kernel
theorem dL_law_700 : decode cL_law 700 = .ok (.iload_n 3, 1) := by decide +kernel
theorem dL_law_701 : decode cL_law 701 = .ok (.iconst 1, 1) := by decide +kernel
theorem dL_law_702 : decode cL_law 702 = .ok (.iadd, 1) := by decide +kernel
theorem dL_law_703 : decode cL_law 703 = .ok (.iaload, 1) := by decide +kernel
theorem dL_law_704 : decode cL_law 704 = .ok (.aload_n 0, 1) := by decide +kernel
theorem dL_law_705 : decode cL_law 705 = .ok (.iload_n 3, 1) := by decide +kernel
theorem dL_law_706 : decode cL_law 706 = .ok (.iconst 2, 1) := by decide +kernel
theorem dL_law_707 : decode cL_law 707 = .ok (.iadd, 1) := by decide +kernel
theorem dL_law_708 : decode cL_law 708 = .ok (.iaload, 1) := by decide +kernel
theorem dL_law_709 : decode cL_law 709 = .ok (.invokevirtual 85, 3) := by decide +kernel
theorem dL_law_712 : decode cL_law 712 = .ok (.if_icmp .eq 836, 3) := by decide +kernel
theorem dL_law_717 : decode cL_law 717 = .ok (.aload_n 1, 1) := by decide +kernel
theorem dL_law_718 : decode cL_law 718 = .ok (.aload_n 0, 1) := by decide +kernel
theorem dL_law_719 : decode cL_law 719 = .ok (.iload_n 3, 1) := by decide +kernel
theorem dL_law_720 : decode cL_law 720 = .ok (.iconst 1, 1) := by decide +kernel
theorem dL_law_721 : decode cL_law 721 = .ok (.iadd, 1) := by decide +kernel
theorem dL_law_722 : decode cL_law 722 = .ok (.iaload, 1) := by decide +kernel
theorem dL_law_723 : decode cL_law 723 = .ok (.invokevirtual 86, 3) := by decide +kernel
theorem dL_law_726 : decode cL_law 726 = .ok (.aload_n 2, 1) := by decide +kernel
theorem dL_law_727 : decode cL_law 727 = .ok (.aload_n 0, 1) := by decide +kernel
theorem dL_law_728 : decode cL_law 728 = .ok (.iload_n 3, 1) := by decide +kernel
theorem dL_law_729 : decode cL_law 729 = .ok (.iconst 1, 1) := by decide +kernel
theorem dL_law_730 : decode cL_law 730 = .ok (.iadd, 1) := by decide +kernel
theorem dL_law_731 : decode cL_law 731 = .ok (.iaload, 1) := by decide +kernel
theorem dL_law_732 : decode cL_law 732 = .ok (.invokevirtual 89, 3) := by decide +kernel
theorem dL_law_735 : decode cL_law 735 = .ok (.if_icmp .eq 813, 3) := by decide +kernel
theorem dL_law_740 : decode cL_law 740 = .ok (.aload_n 1, 1) := by decide +kernel
theorem dL_law_741 : decode cL_law 741 = .ok (.aload_n 0, 1) := by decide +kernel
theorem dL_law_742 : decode cL_law 742 = .ok (.iload_n 3, 1) := by decide +kernel
theorem dL_law_743 : decode cL_law 743 = .ok (.iconst 1, 1) := by decide +kernel
theorem dL_law_744 : decode cL_law 744 = .ok (.iadd, 1) := by decide +kernel
theorem dL_law_745 : decode cL_law 745 = .ok (.iaload, 1) := by decide +kernel
theorem dL_law_746 : decode cL_law 746 = .ok (.invokevirtual 90, 3) := by decide +kernel
theorem dL_law_749 : decode cL_law 749 = .ok (.aload_n 2, 1) := by decide +kernel
theorem dL_law_750 : decode cL_law 750 = .ok (.aload_n 0, 1) := by decide +kernel
theorem dL_law_751 : decode cL_law 751 = .ok (.iload_n 3, 1) := by decide +kernel
theorem dL_law_752 : decode cL_law 752 = .ok (.iconst 1, 1) := by decide +kernel
theorem dL_law_753 : decode cL_law 753 = .ok (.iadd, 1) := by decide +kernel
theorem dL_law_754 : decode cL_law 754 = .ok (.iaload, 1) := by decide +kernel
theorem dL_law_755 : decode cL_law 755 = .ok (.invokevirtual 93, 3) := by decide +kernel
theorem dL_law_758 : decode cL_law 758 = .ok (.if_icmp .eq 790, 3) := by decide +kernel
theorem dL_law_763 : decode cL_law 763 = .ok (.aload_n 1, 1) := by decide +kernel
theorem dL_law_764 : decode cL_law 764 = .ok (.aload_n 0, 1) := by decide +kernel
theorem dL_law_765 : decode cL_law 765 = .ok (.iload_n 3, 1) := by decide +kernel
theorem dL_law_766 : decode cL_law 766 = .ok (.iconst 1, 1) := by decide +kernel
theorem dL_law_767 : decode cL_law 767 = .ok (.iadd, 1) := by decide +kernel
theorem dL_law_768 : decode cL_law 768 = .ok (.iaload, 1) := by decide +kernel
theorem dL_law_769 : decode cL_law 769 = .ok (.aload_n 0, 1) := by decide +kernel
theorem dL_law_770 : decode cL_law 770 = .ok (.iload_n 3, 1) := by decide +kernel
theorem dL_law_771 : decode cL_law 771 = .ok (.iconst 2, 1) := by decide +kernel
theorem dL_law_772 : decode cL_law 772 = .ok (.iadd, 1) := by decide +kernel
theorem dL_law_773 : decode cL_law 773 = .ok (.iaload, 1) := by decide +kernel
theorem dL_law_774 : decode cL_law 774 = .ok (.invokevirtual 94, 3) := by decide +kernel
theorem dL_law_777 : decode cL_law 777 = .ok (.aload_n 2, 1) := by decide +kernel
theorem dL_law_778 : decode cL_law 778 = .ok (.aload_n 0, 1) := by decide +kernel
theorem dL_law_779 : decode cL_law 779 = .ok (.iload_n 3, 1) := by decide +kernel
theorem dL_law_780 : decode cL_law 780 = .ok (.iconst 1, 1) := by decide +kernel
theorem dL_law_781 : decode cL_law 781 = .ok (.iadd, 1) := by decide +kernel
theorem dL_law_782 : decode cL_law 782 = .ok (.iaload, 1) := by decide +kernel
theorem dL_law_783 : decode cL_law 783 = .ok (.aload_n 0, 1) := by decide +kernel
theorem dL_law_784 : decode cL_law 784 = .ok (.iload_n 3, 1) := by decide +kernel
theorem dL_law_785 : decode cL_law 785 = .ok (.iconst 2, 1) := by decide +kernel
theorem dL_law_786 : decode cL_law 786 = .ok (.iadd, 1) := by decide +kernel
theorem dL_law_787 : decode cL_law 787 = .ok (.iaload, 1) := by decide +kernel
theorem dL_law_788 : decode cL_law 788 = .ok (.invokevirtual 97, 3) := by decide +kernel
theorem dL_law_791 : decode cL_law 791 = .ok (.if_icmp .eq 757, 3) := by decide +kernel
theorem dL_law_796 : decode cL_law 796 = .ok (.aload_n 1, 1) := by decide +kernel
theorem dL_law_797 : decode cL_law 797 = .ok (.aload_n 0, 1) := by decide +kernel
theorem dL_law_798 : decode cL_law 798 = .ok (.iload_n 3, 1) := by decide +kernel
theorem dL_law_799 : decode cL_law 799 = .ok (.iconst 1, 1) := by decide +kernel
theorem dL_law_800 : decode cL_law 800 = .ok (.iadd, 1) := by decide +kernel
theorem dL_law_801 : decode cL_law 801 = .ok (.iaload, 1) := by decide +kernel
theorem dL_law_802 : decode cL_law 802 = .ok (.aload_n 0, 1) := by decide +kernel
theorem dL_law_803 : decode cL_law 803 = .ok (.iload_n 3, 1) := by decide +kernel
theorem dL_law_804 : decode cL_law 804 = .ok (.iconst 2, 1) := by decide +kernel
theorem dL_law_805 : decode cL_law 805 = .ok (.iadd, 1) := by decide +kernel
theorem dL_law_806 : decode cL_law 806 = .ok (.iaload, 1) := by decide +kernel
theorem dL_law_807 : decode cL_law 807 = .ok (.aload_n 0, 1) := by decide +kernel
theorem dL_law_808 : decode cL_law 808 = .ok (.iload_n 3, 1) := by decide +kernel
theorem dL_law_809 : decode cL_law 809 = .ok (.iconst 3, 1) := by decide +kernel
theorem dL_law_810 : decode cL_law 810 = .ok (.iadd, 1) := by decide +kernel
theorem dL_law_811 : decode cL_law 811 = .ok (.iaload, 1) := by decide +kernel
theorem dL_law_812 : decode cL_law 812 = .ok (.invokevirtual 98, 3) := by decide +kernel
theorem dL_law_815 : decode cL_law 815 = .ok (.aload_n 2, 1) := by decide +kernel
theorem dL_law_816 : decode cL_law 816 = .ok (.aload_n 0, 1) := by decide +kernel
theorem dL_law_817 : decode cL_law 817 = .ok (.iload_n 3, 1) := by decide +kernel
theorem dL_law_818 : decode cL_law 818 = .ok (.iconst 1, 1) := by decide +kernel
theorem dL_law_819 : decode cL_law 819 = .ok (.iadd, 1) := by decide +kernel
theorem dL_law_820 : decode cL_law 820 = .ok (.iaload, 1) := by decide +kernel
theorem dL_law_821 : decode cL_law 821 = .ok (.aload_n 0, 1) := by decide +kernel
theorem dL_law_822 : decode cL_law 822 = .ok (.iload_n 3, 1) := by decide +kernel
theorem dL_law_823 : decode cL_law 823 = .ok (.iconst 2, 1) := by decide +kernel
theorem dL_law_824 : decode cL_law 824 = .ok (.iadd, 1) := by decide +kernel
theorem dL_law_825 : decode cL_law 825 = .ok (.iaload, 1) := by decide +kernel
theorem dL_law_826 : decode cL_law 826 = .ok (.aload_n 0, 1) := by decide +kernel
theorem dL_law_827 : decode cL_law 827 = .ok (.iload_n 3, 1) := by decide +kernel
theorem dL_law_828 : decode cL_law 828 = .ok (.iconst 3, 1) := by decide +kernel
theorem dL_law_829 : decode cL_law 829 = .ok (.iadd, 1) := by decide +kernel
theorem dL_law_830 : decode cL_law 830 = .ok (.iaload, 1) := by decide +kernel
theorem dL_law_831 : decode cL_law 831 = .ok (.invokevirtual 102, 3) := by decide +kernel
theorem dL_law_834 : decode cL_law 834 = .ok (.if_icmp .eq 714, 3) := by decide +kernel
theorem dL_law_839 : decode cL_law 839 = .ok (.aload_n 1, 1) := by decide +kernel
theorem dL_law_840 : decode cL_law 840 = .ok (.aload_n 0, 1) := by decide +kernel
theorem dL_law_841 : decode cL_law 841 = .ok (.iload_n 3, 1) := by decide +kernel
theorem dL_law_842 : decode cL_law 842 = .ok (.iconst 1, 1) := by decide +kernel
theorem dL_law_843 : decode cL_law 843 = .ok (.iadd, 1) := by decide +kernel
theorem dL_law_844 : decode cL_law 844 = .ok (.iaload, 1) := by decide +kernel
theorem dL_law_845 : decode cL_law 845 = .ok (.aload_n 0, 1) := by decide +kernel
theorem dL_law_846 : decode cL_law 846 = .ok (.iload_n 3, 1) := by decide +kernel
theorem dL_law_847 : decode cL_law 847 = .ok (.iconst 2, 1) := by decide +kernel
theorem dL_law_848 : decode cL_law 848 = .ok (.iadd, 1) := by decide +kernel
theorem dL_law_849 : decode cL_law 849 = .ok (.iaload, 1) := by decide +kernel
theorem dL_law_850 : decode cL_law 850 = .ok (.invokevirtual 103, 3) := by decide +kernel
theorem dL_law_853 : decode cL_law 853 = .ok (.aload_n 2, 1) := by decide +kernel
theorem dL_law_854 : decode cL_law 854 = .ok (.aload_n 0, 1) := by decide +kernel
theorem dL_law_855 : decode cL_law 855 = .ok (.iload_n 3, 1) := by decide +kernel
theorem dL_law_856 : decode cL_law 856 = .ok (.iconst 1, 1) := by decide +kernel
theorem dL_law_857 : decode cL_law 857 = .ok (.iadd, 1) := by decide +kernel
theorem dL_law_858 : decode cL_law 858 = .ok (.iaload, 1) := by decide +kernel
theorem dL_law_859 : decode cL_law 859 = .ok (.aload_n 0, 1) := by decide +kernel
theorem dL_law_860 : decode cL_law 860 = .ok (.iload_n 3, 1) := by decide +kernel
theorem dL_law_861 : decode cL_law 861 = .ok (.iconst 2, 1) := by decide +kernel
theorem dL_law_862 : decode cL_law 862 = .ok (.iadd, 1) := by decide +kernel
theorem dL_law_863 : decode cL_law 863 = .ok (.iaload, 1) := by decide +kernel
theorem dL_law_864 : decode cL_law 864 = .ok (.invokevirtual 106, 3) := by decide +kernel
theorem dL_law_867 : decode cL_law 867 = .ok (.if_icmp .eq 681, 3) := by decide +kernel
theorem dL_law_872 : decode cL_law 872 = .ok (.aload_n 1, 1) := by decide +kernel
theorem dL_law_873 : decode cL_law 873 = .ok (.aload_n 0, 1) := by decide +kernel
theorem dL_law_874 : decode cL_law 874 = .ok (.iload_n 3, 1) := by decide +kernel
theorem dL_law_875 : decode cL_law 875 = .ok (.iconst 1, 1) := by decide +kernel
theorem dL_law_876 : decode cL_law 876 = .ok (.iadd, 1) := by decide +kernel
theorem dL_law_877 : decode cL_law 877 = .ok (.iaload, 1) := by decide +kernel
theorem dL_law_878 : decode cL_law 878 = .ok (.invokevirtual 107, 3) := by decide +kernel
theorem dL_law_881 : decode cL_law 881 = .ok (.aload_n 2, 1) := by decide +kernel
theorem dL_law_882 : decode cL_law 882 = .ok (.aload_n 0, 1) := by decide +kernel
theorem dL_law_883 : decode cL_law 883 = .ok (.iload_n 3, 1) := by decide +kernel
theorem dL_law_884 : decode cL_law 884 = .ok (.iconst 1, 1) := by decide +kernel
theorem dL_law_885 : decode cL_law 885 = .ok (.iadd, 1) := by decide +kernel
theorem dL_law_886 : decode cL_law 886 = .ok (.iaload, 1) := by decide +kernel
theorem dL_law_887 : decode cL_law 887 = .ok (.invokevirtual 110, 3) := by decide +kernel
theorem dL_law_890 : decode cL_law 890 = .ok (.if_icmp .eq 658, 3) := by decide +kernel
theorem dL_law_895 : decode cL_law 895 = .ok (.aload_n 1, 1) := by decide +kernel
theorem dL_law_896 : decode cL_law 896 = .ok (.invokevirtual 111, 3) := by decide +kernel
theorem dL_law_899 : decode cL_law 899 = .ok (.aload_n 2, 1) := by decide +kernel
theorem dL_law_900 : decode cL_law 900 = .ok (.invokevirtual 114, 3) := by decide +kernel
theorem dL_law_903 : decode cL_law 903 = .ok (.if_icmp .eq 645, 3) := by decide +kernel
theorem dL_law_908 : decode cL_law 908 = .ok (.aload_n 1, 1) := by decide +kernel
theorem dL_law_909 : decode cL_law 909 = .ok (.aload_n 0, 1) := by decide +kernel
theorem dL_law_910 : decode cL_law 910 = .ok (.iload_n 3, 1) := by decide +kernel
theorem dL_law_911 : decode cL_law 911 = .ok (.iconst 1, 1) := by decide +kernel
theorem dL_law_912 : decode cL_law 912 = .ok (.iadd, 1) := by decide +kernel
theorem dL_law_913 : decode cL_law 913 = .ok (.iaload, 1) := by decide +kernel
theorem dL_law_914 : decode cL_law 914 = .ok (.invokevirtual 115, 3) := by decide +kernel
theorem dL_law_917 : decode cL_law 917 = .ok (.aload_n 2, 1) := by decide +kernel
theorem dL_law_918 : decode cL_law 918 = .ok (.aload_n 0, 1) := by decide +kernel
theorem dL_law_919 : decode cL_law 919 = .ok (.iload_n 3, 1) := by decide +kernel
theorem dL_law_920 : decode cL_law 920 = .ok (.iconst 1, 1) := by decide +kernel
theorem dL_law_921 : decode cL_law 921 = .ok (.iadd, 1) := by decide +kernel
theorem dL_law_922 : decode cL_law 922 = .ok (.iaload, 1) := by decide +kernel
theorem dL_law_923 : decode cL_law 923 = .ok (.invokevirtual 118, 3) := by decide +kernel
theorem dL_law_926 : decode cL_law 926 = .ok (.if_icmp .eq 622, 3) := by decide +kernel
theorem dL_law_931 : decode cL_law 931 = .ok (.aload_n 1, 1) := by decide +kernel
theorem dL_law_932 : decode cL_law 932 = .ok (.aload_n 0, 1) := by decide +kernel
theorem dL_law_933 : decode cL_law 933 = .ok (.iload_n 3, 1) := by decide +kernel
theorem dL_law_934 : decode cL_law 934 = .ok (.iconst 1, 1) := by decide +kernel
theorem dL_law_935 : decode cL_law 935 = .ok (.iadd, 1) := by decide +kernel
theorem dL_law_936 : decode cL_law 936 = .ok (.iaload, 1) := by decide +kernel
theorem dL_law_937 : decode cL_law 937 = .ok (.aload_n 0, 1) := by decide +kernel
theorem dL_law_938 : decode cL_law 938 = .ok (.iload_n 3, 1) := by decide +kernel
theorem dL_law_939 : decode cL_law 939 = .ok (.iconst 2, 1) := by decide +kernel
theorem dL_law_940 : decode cL_law 940 = .ok (.iadd, 1) := by decide +kernel
theorem dL_law_941 : decode cL_law 941 = .ok (.iaload, 1) := by decide +kernel
theorem dL_law_942 : decode cL_law 942 = .ok (.invokevirtual 119, 3) := by decide +kernel
theorem dL_law_945 : decode cL_law 945 = .ok (.aload_n 2, 1) := by decide +kernel
theorem dL_law_946 : decode cL_law 946 = .ok (.aload_n 0, 1) := by decide +kernel
theorem dL_law_947 : decode cL_law 947 = .ok (.iload_n 3, 1) := by decide +kernel
theorem dL_law_948 : decode cL_law 948 = .ok (.iconst 1, 1) := by decide +kernel
theorem dL_law_949 : decode cL_law 949 = .ok (.iadd, 1) := by decide +kernel
theorem dL_law_950 : decode cL_law 950 = .ok (.iaload, 1) := by decide +kernel
theorem dL_law_951 : decode cL_law 951 = .ok (.aload_n 0, 1) := by decide +kernel
theorem dL_law_952 : decode cL_law 952 = .ok (.iload_n 3, 1) := by decide +kernel
theorem dL_law_953 : decode cL_law 953 = .ok (.iconst 2, 1) := by decide +kernel
theorem dL_law_954 : decode cL_law 954 = .ok (.iadd, 1) := by decide +kernel
theorem dL_law_955 : decode cL_law 955 = .ok (.iaload, 1) := by decide +kernel
theorem dL_law_956 : decode cL_law 956 = .ok (.invokevirtual 122, 3) := by decide +kernel
theorem dL_law_959 : decode cL_law 959 = .ok (.if_icmp .eq 589, 3) := by decide +kernel
theorem dL_law_964 : decode cL_law 964 = .ok (.aload_n 1, 1) := by decide +kernel
theorem dL_law_965 : decode cL_law 965 = .ok (.invokevirtual 123, 3) := by decide +kernel
theorem dL_law_968 : decode cL_law 968 = .ok (.aload_n 2, 1) := by decide +kernel
theorem dL_law_969 : decode cL_law 969 = .ok (.invokevirtual 126, 3) := by decide +kernel
theorem dL_law_972 : decode cL_law 972 = .ok (.if_icmp .eq 576, 3) := by decide +kernel
theorem dL_law_977 : decode cL_law 977 = .ok (.aload_n 1, 1) := by decide +kernel
theorem dL_law_978 : decode cL_law 978 = .ok (.invokevirtual 127, 3) := by decide +kernel
theorem dL_law_981 : decode cL_law 981 = .ok (.aload_n 2, 1) := by decide +kernel
theorem dL_law_982 : decode cL_law 982 = .ok (.invokevirtual 130, 3) := by decide +kernel
theorem dL_law_985 : decode cL_law 985 = .ok (.if_icmp .eq 563, 3) := by decide +kernel
theorem dL_law_990 : decode cL_law 990 = .ok (.aload_n 1, 1) := by decide +kernel
theorem dL_law_991 : decode cL_law 991 = .ok (.invokevirtual 131, 3) := by decide +kernel
theorem dL_law_994 : decode cL_law 994 = .ok (.aload_n 2, 1) := by decide +kernel
theorem dL_law_995 : decode cL_law 995 = .ok (.invokevirtual 134, 3) := by decide +kernel
theorem dL_law_998 : decode cL_law 998 = .ok (.if_icmp .eq 550, 3) := by decide +kernel
theorem dL_law_1003 : decode cL_law 1003 = .ok (.aload_n 1, 1) := by decide +kernel
theorem dL_law_1004 : decode cL_law 1004 = .ok (.aload_n 0, 1) := by decide +kernel
theorem dL_law_1005 : decode cL_law 1005 = .ok (.iload_n 3, 1) := by decide +kernel
theorem dL_law_1006 : decode cL_law 1006 = .ok (.iconst 1, 1) := by decide +kernel
theorem dL_law_1007 : decode cL_law 1007 = .ok (.iadd, 1) := by decide +kernel
theorem dL_law_1008 : decode cL_law 1008 = .ok (.iaload, 1) := by decide +kernel
theorem dL_law_1009 : decode cL_law 1009 = .ok (.invokevirtual 135, 3) := by decide +kernel
theorem dL_law_1012 : decode cL_law 1012 = .ok (.aload_n 2, 1) := by decide +kernel
theorem dL_law_1013 : decode cL_law 1013 = .ok (.aload_n 0, 1) := by decide +kernel
theorem dL_law_1014 : decode cL_law 1014 = .ok (.iload_n 3, 1) := by decide +kernel
theorem dL_law_1015 : decode cL_law 1015 = .ok (.iconst 1, 1) := by decide +kernel
theorem dL_law_1016 : decode cL_law 1016 = .ok (.iadd, 1) := by decide +kernel
theorem dL_law_1017 : decode cL_law 1017 = .ok (.iaload, 1) := by decide +kernel
theorem dL_law_1018 : decode cL_law 1018 = .ok (.invokevirtual 138, 3) := by decide +kernel
theorem dL_law_1021 : decode cL_law 1021 = .ok (.if_icmp .eq 527, 3) := by decide +kernel
theorem dL_law_1026 : decode cL_law 1026 = .ok (.aload_n 1, 1) := by decide +kernel
theorem dL_law_1027 : decode cL_law 1027 = .ok (.invokevirtual 139, 3) := by decide +kernel
theorem dL_law_1030 : decode cL_law 1030 = .ok (.aload_n 2, 1) := by decide +kernel
theorem dL_law_1031 : decode cL_law 1031 = .ok (.invokevirtual 142, 3) := by decide +kernel
theorem dL_law_1034 : decode cL_law 1034 = .ok (.if_icmp .eq 514, 3) := by decide +kernel
theorem dL_law_1039 : decode cL_law 1039 = .ok (.aload_n 1, 1) := by decide +kernel
theorem dL_law_1040 : decode cL_law 1040 = .ok (.invokevirtual 143, 3) := by decide +kernel
theorem dL_law_1043 : decode cL_law 1043 = .ok (.aload_n 2, 1) := by decide +kernel
theorem dL_law_1044 : decode cL_law 1044 = .ok (.invokevirtual 146, 3) := by decide +kernel
theorem dL_law_1047 : decode cL_law 1047 = .ok (.if_icmp .eq 501, 3) := by decide +kernel
theorem dL_law_1052 : decode cL_law 1052 = .ok (.aload_n 1, 1) := by decide +kernel
theorem dL_law_1053 : decode cL_law 1053 = .ok (.aload_n 0, 1) := by decide +kernel
theorem dL_law_1054 : decode cL_law 1054 = .ok (.iload_n 3, 1) := by decide +kernel
theorem dL_law_1055 : decode cL_law 1055 = .ok (.iconst 1, 1) := by decide +kernel
theorem dL_law_1056 : decode cL_law 1056 = .ok (.iadd, 1) := by decide +kernel
theorem dL_law_1057 : decode cL_law 1057 = .ok (.iaload, 1) := by decide +kernel
theorem dL_law_1058 : decode cL_law 1058 = .ok (.invokevirtual 147, 3) := by decide +kernel
theorem dL_law_1061 : decode cL_law 1061 = .ok (.aload_n 2, 1) := by decide +kernel
theorem dL_law_1062 : decode cL_law 1062 = .ok (.aload_n 0, 1) := by decide +kernel
theorem dL_law_1063 : decode cL_law 1063 = .ok (.iload_n 3, 1) := by decide +kernel
theorem dL_law_1064 : decode cL_law 1064 = .ok (.iconst 1, 1) := by decide +kernel
theorem dL_law_1065 : decode cL_law 1065 = .ok (.iadd, 1) := by decide +kernel
theorem dL_law_1066 : decode cL_law 1066 = .ok (.iaload, 1) := by decide +kernel
theorem dL_law_1067 : decode cL_law 1067 = .ok (.invokevirtual 150, 3) := by decide +kernel
theorem dL_law_1070 : decode cL_law 1070 = .ok (.if_icmp .eq 478, 3) := by decide +kernel
theorem dL_law_1075 : decode cL_law 1075 = .ok (.aload_n 1, 1) := by decide +kernel
theorem dL_law_1076 : decode cL_law 1076 = .ok (.aload_n 0, 1) := by decide +kernel
theorem dL_law_1077 : decode cL_law 1077 = .ok (.iload_n 3, 1) := by decide +kernel
theorem dL_law_1078 : decode cL_law 1078 = .ok (.iconst 1, 1) := by decide +kernel
theorem dL_law_1079 : decode cL_law 1079 = .ok (.iadd, 1) := by decide +kernel
theorem dL_law_1080 : decode cL_law 1080 = .ok (.iaload, 1) := by decide +kernel
theorem dL_law_1081 : decode cL_law 1081 = .ok (.invokevirtual 151, 3) := by decide +kernel
theorem dL_law_1084 : decode cL_law 1084 = .ok (.aload_n 2, 1) := by decide +kernel
theorem dL_law_1085 : decode cL_law 1085 = .ok (.aload_n 0, 1) := by decide +kernel
theorem dL_law_1086 : decode cL_law 1086 = .ok (.iload_n 3, 1) := by decide +kernel
theorem dL_law_1087 : decode cL_law 1087 = .ok (.iconst 1, 1) := by decide +kernel
theorem dL_law_1088 : decode cL_law 1088 = .ok (.iadd, 1) := by decide +kernel
theorem dL_law_1089 : decode cL_law 1089 = .ok (.iaload, 1) := by decide +kernel
theorem dL_law_1090 : decode cL_law 1090 = .ok (.invokevirtual 154, 3) := by decide +kernel
theorem dL_law_1093 : decode cL_law 1093 = .ok (.if_icmp .eq 455, 3) := by decide +kernel
theorem dL_law_1098 : decode cL_law 1098 = .ok (.aload_n 1, 1) := by decide +kernel
theorem dL_law_1099 : decode cL_law 1099 = .ok (.invokevirtual 155, 3) := by decide +kernel
theorem dL_law_1102 : decode cL_law 1102 = .ok (.aload_n 2, 1) := by decide +kernel
theorem dL_law_1103 : decode cL_law 1103 = .ok (.invokevirtual 158, 3) := by decide +kernel
theorem dL_law_1106 : decode cL_law 1106 = .ok (.if_icmp .eq 442, 3) := by decide +kernel
theorem dL_law_1111 : decode cL_law 1111 = .ok (.aload_n 1, 1) := by decide +kernel
theorem dL_law_1112 : decode cL_law 1112 = .ok (.aload_n 0, 1) := by decide +kernel
theorem dL_law_1113 : decode cL_law 1113 = .ok (.iload_n 3, 1) := by decide +kernel
theorem dL_law_1114 : decode cL_law 1114 = .ok (.iconst 1, 1) := by decide +kernel
theorem dL_law_1115 : decode cL_law 1115 = .ok (.iadd, 1) := by decide +kernel
theorem dL_law_1116 : decode cL_law 1116 = .ok (.iaload, 1) := by decide +kernel
theorem dL_law_1117 : decode cL_law 1117 = .ok (.invokevirtual 159, 3) := by decide +kernel
theorem dL_law_1120 : decode cL_law 1120 = .ok (.aload_n 2, 1) := by decide +kernel
theorem dL_law_1121 : decode cL_law 1121 = .ok (.aload_n 0, 1) := by decide +kernel
theorem dL_law_1122 : decode cL_law 1122 = .ok (.iload_n 3, 1) := by decide +kernel
theorem dL_law_1123 : decode cL_law 1123 = .ok (.iconst 1, 1) := by decide +kernel
theorem dL_law_1124 : decode cL_law 1124 = .ok (.iadd, 1) := by decide +kernel
theorem dL_law_1125 : decode cL_law 1125 = .ok (.iaload, 1) := by decide +kernel
theorem dL_law_1126 : decode cL_law 1126 = .ok (.invokevirtual 162, 3) := by decide +kernel
theorem dL_law_1129 : decode cL_law 1129 = .ok (.if_icmp .eq 419, 3) := by decide +kernel
theorem dL_law_1134 : decode cL_law 1134 = .ok (.aload_n 1, 1) := by decide +kernel
theorem dL_law_1135 : decode cL_law 1135 = .ok (.aload_n 0, 1) := by decide +kernel
theorem dL_law_1136 : decode cL_law 1136 = .ok (.iload_n 3, 1) := by decide +kernel
theorem dL_law_1137 : decode cL_law 1137 = .ok (.iconst 1, 1) := by decide +kernel
theorem dL_law_1138 : decode cL_law 1138 = .ok (.iadd, 1) := by decide +kernel
theorem dL_law_1139 : decode cL_law 1139 = .ok (.iaload, 1) := by decide +kernel
theorem dL_law_1140 : decode cL_law 1140 = .ok (.invokevirtual 163, 3) := by decide +kernel
theorem dL_law_1143 : decode cL_law 1143 = .ok (.aload_n 2, 1) := by decide +kernel
theorem dL_law_1144 : decode cL_law 1144 = .ok (.aload_n 0, 1) := by decide +kernel
theorem dL_law_1145 : decode cL_law 1145 = .ok (.iload_n 3, 1) := by decide +kernel
theorem dL_law_1146 : decode cL_law 1146 = .ok (.iconst 1, 1) := by decide +kernel
theorem dL_law_1147 : decode cL_law 1147 = .ok (.iadd, 1) := by decide +kernel
theorem dL_law_1148 : decode cL_law 1148 = .ok (.iaload, 1) := by decide +kernel
theorem dL_law_1149 : decode cL_law 1149 = .ok (.invokevirtual 166, 3) := by decide +kernel
theorem dL_law_1152 : decode cL_law 1152 = .ok (.if_icmp .eq 396, 3) := by decide +kernel
theorem dL_law_1157 : decode cL_law 1157 = .ok (.aload_n 1, 1) := by decide +kernel
theorem dL_law_1158 : decode cL_law 1158 = .ok (.aload_n 0, 1) := by decide +kernel
theorem dL_law_1159 : decode cL_law 1159 = .ok (.iload_n 3, 1) := by decide +kernel
theorem dL_law_1160 : decode cL_law 1160 = .ok (.iconst 1, 1) := by decide +kernel
theorem dL_law_1161 : decode cL_law 1161 = .ok (.iadd, 1) := by decide +kernel
theorem dL_law_1162 : decode cL_law 1162 = .ok (.iaload, 1) := by decide +kernel
theorem dL_law_1163 : decode cL_law 1163 = .ok (.invokevirtual 167, 3) := by decide +kernel
theorem dL_law_1166 : decode cL_law 1166 = .ok (.aload_n 2, 1) := by decide +kernel
theorem dL_law_1167 : decode cL_law 1167 = .ok (.aload_n 0, 1) := by decide +kernel
theorem dL_law_1168 : decode cL_law 1168 = .ok (.iload_n 3, 1) := by decide +kernel
theorem dL_law_1169 : decode cL_law 1169 = .ok (.iconst 1, 1) := by decide +kernel
theorem dL_law_1170 : decode cL_law 1170 = .ok (.iadd, 1) := by decide +kernel
theorem dL_law_1171 : decode cL_law 1171 = .ok (.iaload, 1) := by decide +kernel
theorem dL_law_1172 : decode cL_law 1172 = .ok (.invokevirtual 170, 3) := by decide +kernel
theorem dL_law_1175 : decode cL_law 1175 = .ok (.if_icmp .eq 373, 3) := by decide +kernel
theorem dL_law_1180 : decode cL_law 1180 = .ok (.aload_n 1, 1) := by decide +kernel
theorem dL_law_1181 : decode cL_law 1181 = .ok (.aload_n 0, 1) := by decide +kernel
theorem dL_law_1182 : decode cL_law 1182 = .ok (.iload_n 3, 1) := by decide +kernel
theorem dL_law_1183 : decode cL_law 1183 = .ok (.iconst 1, 1) := by decide +kernel
theorem dL_law_1184 : decode cL_law 1184 = .ok (.iadd, 1) := by decide +kernel
theorem dL_law_1185 : decode cL_law 1185 = .ok (.iaload, 1) := by decide +kernel
theorem dL_law_1186 : decode cL_law 1186 = .ok (.invokevirtual 171, 3) := by decide +kernel
theorem dL_law_1189 : decode cL_law 1189 = .ok (.aload_n 2, 1) := by decide +kernel
theorem dL_law_1190 : decode cL_law 1190 = .ok (.aload_n 0, 1) := by decide +kernel
theorem dL_law_1191 : decode cL_law 1191 = .ok (.iload_n 3, 1) := by decide +kernel
theorem dL_law_1192 : decode cL_law 1192 = .ok (.iconst 1, 1) := by decide +kernel
theorem dL_law_1193 : decode cL_law 1193 = .ok (.iadd, 1) := by decide +kernel
theorem dL_law_1194 : decode cL_law 1194 = .ok (.iaload, 1) := by decide +kernel
theorem dL_law_1195 : decode cL_law 1195 = .ok (.invokevirtual 174, 3) := by decide +kernel
theorem dL_law_1198 : decode cL_law 1198 = .ok (.if_icmp .eq 350, 3) := by decide +kernel
theorem dL_law_1203 : decode cL_law 1203 = .ok (.aload_n 1, 1) := by decide +kernel
theorem dL_law_1204 : decode cL_law 1204 = .ok (.invokevirtual 175, 3) := by decide +kernel
theorem dL_law_1207 : decode cL_law 1207 = .ok (.aload_n 2, 1) := by decide +kernel
theorem dL_law_1208 : decode cL_law 1208 = .ok (.invokevirtual 178, 3) := by decide +kernel
theorem dL_law_1211 : decode cL_law 1211 = .ok (.if_icmp .eq 337, 3) := by decide +kernel
theorem dL_law_1216 : decode cL_law 1216 = .ok (.aload_n 1, 1) := by decide +kernel
theorem dL_law_1217 : decode cL_law 1217 = .ok (.aload_n 0, 1) := by decide +kernel
theorem dL_law_1218 : decode cL_law 1218 = .ok (.iload_n 3, 1) := by decide +kernel
theorem dL_law_1219 : decode cL_law 1219 = .ok (.iconst 1, 1) := by decide +kernel
theorem dL_law_1220 : decode cL_law 1220 = .ok (.iadd, 1) := by decide +kernel
theorem dL_law_1221 : decode cL_law 1221 = .ok (.iaload, 1) := by decide +kernel
theorem dL_law_1222 : decode cL_law 1222 = .ok (.invokevirtual 179, 3) := by decide +kernel
theorem dL_law_1225 : decode cL_law 1225 = .ok (.aload_n 2, 1) := by decide +kernel
theorem dL_law_1226 : decode cL_law 1226 = .ok (.aload_n 0, 1) := by decide +kernel
theorem dL_law_1227 : decode cL_law 1227 = .ok (.iload_n 3, 1) := by decide +kernel
theorem dL_law_1228 : decode cL_law 1228 = .ok (.iconst 1, 1) := by decide +kernel
theorem dL_law_1229 : decode cL_law 1229 = .ok (.iadd, 1) := by decide +kernel
theorem dL_law_1230 : decode cL_law 1230 = .ok (.iaload, 1) := by decide +kernel
theorem dL_law_1231 : decode cL_law 1231 = .ok (.invokevirtual 182, 3) := by decide +kernel
theorem dL_law_1234 : decode cL_law 1234 = .ok (.if_icmp .eq 314, 3) := by decide +kernel
theorem dL_law_1239 : decode cL_law 1239 = .ok (.aload_n 1, 1) := by decide +kernel
theorem dL_law_1240 : decode cL_law 1240 = .ok (.aload_n 0, 1) := by decide +kernel
theorem dL_law_1241 : decode cL_law 1241 = .ok (.iload_n 3, 1) := by decide +kernel
theorem dL_law_1242 : decode cL_law 1242 = .ok (.iconst 1, 1) := by decide +kernel
theorem dL_law_1243 : decode cL_law 1243 = .ok (.iadd, 1) := by decide +kernel
theorem dL_law_1244 : decode cL_law 1244 = .ok (.iaload, 1) := by decide +kernel
theorem dL_law_1245 : decode cL_law 1245 = .ok (.aload_n 0, 1) := by decide +kernel
theorem dL_law_1246 : decode cL_law 1246 = .ok (.iload_n 3, 1) := by decide +kernel
theorem dL_law_1247 : decode cL_law 1247 = .ok (.iconst 2, 1) := by decide +kernel
theorem dL_law_1248 : decode cL_law 1248 = .ok (.iadd, 1) := by decide +kernel
theorem dL_law_1249 : decode cL_law 1249 = .ok (.iaload, 1) := by decide +kernel
theorem dL_law_1250 : decode cL_law 1250 = .ok (.invokevirtual 183, 3) := by decide +kernel
theorem dL_law_1253 : decode cL_law 1253 = .ok (.aload_n 2, 1) := by decide +kernel
theorem dL_law_1254 : decode cL_law 1254 = .ok (.aload_n 0, 1) := by decide +kernel
theorem dL_law_1255 : decode cL_law 1255 = .ok (.iload_n 3, 1) := by decide +kernel
theorem dL_law_1256 : decode cL_law 1256 = .ok (.iconst 1, 1) := by decide +kernel
theorem dL_law_1257 : decode cL_law 1257 = .ok (.iadd, 1) := by decide +kernel
theorem dL_law_1258 : decode cL_law 1258 = .ok (.iaload, 1) := by decide +kernel
theorem dL_law_1259 : decode cL_law 1259 = .ok (.aload_n 0, 1) := by decide +kernel
theorem dL_law_1260 : decode cL_law 1260 = .ok (.iload_n 3, 1) := by decide +kernel
theorem dL_law_1261 : decode cL_law 1261 = .ok (.iconst 2, 1) := by decide +kernel
theorem dL_law_1262 : decode cL_law 1262 = .ok (.iadd, 1) := by decide +kernel
theorem dL_law_1263 : decode cL_law 1263 = .ok (.iaload, 1) := by decide +kernel
theorem dL_law_1264 : decode cL_law 1264 = .ok (.invokevirtual 186, 3) := by decide +kernel
theorem dL_law_1267 : decode cL_law 1267 = .ok (.if_icmp .eq 281, 3) := by decide +kernel
theorem dL_law_1272 : decode cL_law 1272 = .ok (.aload_n 1, 1) := by decide +kernel
theorem dL_law_1273 : decode cL_law 1273 = .ok (.aload_n 0, 1) := by decide +kernel
theorem dL_law_1274 : decode cL_law 1274 = .ok (.iload_n 3, 1) := by decide +kernel
theorem dL_law_1275 : decode cL_law 1275 = .ok (.iconst 1, 1) := by decide +kernel
theorem dL_law_1276 : decode cL_law 1276 = .ok (.iadd, 1) := by decide +kernel
theorem dL_law_1277 : decode cL_law 1277 = .ok (.iaload, 1) := by decide +kernel
theorem dL_law_1278 : decode cL_law 1278 = .ok (.invokevirtual 187, 3) := by decide +kernel
theorem dL_law_1281 : decode cL_law 1281 = .ok (.aload_n 2, 1) := by decide +kernel
theorem dL_law_1282 : decode cL_law 1282 = .ok (.aload_n 0, 1) := by decide +kernel
theorem dL_law_1283 : decode cL_law 1283 = .ok (.iload_n 3, 1) := by decide +kernel
theorem dL_law_1284 : decode cL_law 1284 = .ok (.iconst 1, 1) := by decide +kernel
theorem dL_law_1285 : decode cL_law 1285 = .ok (.iadd, 1) := by decide +kernel
theorem dL_law_1286 : decode cL_law 1286 = .ok (.iaload, 1) := by decide +kernel
theorem dL_law_1287 : decode cL_law 1287 = .ok (.invokevirtual 190, 3) := by decide +kernel
theorem dL_law_1290 : decode cL_law 1290 = .ok (.if_icmp .eq 258, 3) := by decide +kernel
theorem dL_law_1295 : decode cL_law 1295 = .ok (.aload_n 1, 1) := by decide +kernel
theorem dL_law_1296 : decode cL_law 1296 = .ok (.aload_n 0, 1) := by decide +kernel
theorem dL_law_1297 : decode cL_law 1297 = .ok (.iload_n 3, 1) := by decide +kernel
theorem dL_law_1298 : decode cL_law 1298 = .ok (.iconst 1, 1) := by decide +kernel
theorem dL_law_1299 : decode cL_law 1299 = .ok (.iadd, 1) := by decide +kernel
theorem dL_law_1300 : decode cL_law 1300 = .ok (.iaload, 1) := by decide +kernel
theorem dL_law_1301 : decode cL_law 1301 = .ok (.aload_n 0, 1) := by decide +kernel
theorem dL_law_1302 : decode cL_law 1302 = .ok (.iload_n 3, 1) := by decide +kernel
theorem dL_law_1303 : decode cL_law 1303 = .ok (.iconst 2, 1) := by decide +kernel
theorem dL_law_1304 : decode cL_law 1304 = .ok (.iadd, 1) := by decide +kernel
theorem dL_law_1305 : decode cL_law 1305 = .ok (.iaload, 1) := by decide +kernel
theorem dL_law_1306 : decode cL_law 1306 = .ok (.ifCond .eq 7, 3) := by decide +kernel
theorem dL_law_1313 : decode cL_law 1313 = .ok (.iconst 0, 1) := by decide +kernel
theorem dL_law_1314 : decode cL_law 1314 = .ok (.invokevirtual 191, 3) := by decide +kernel
theorem dL_law_1317 : decode cL_law 1317 = .ok (.aload_n 2, 1) := by decide +kernel
theorem dL_law_1318 : decode cL_law 1318 = .ok (.aload_n 0, 1) := by decide +kernel
theorem dL_law_1319 : decode cL_law 1319 = .ok (.iload_n 3, 1) := by decide +kernel
theorem dL_law_1320 : decode cL_law 1320 = .ok (.iconst 1, 1) := by decide +kernel
theorem dL_law_1321 : decode cL_law 1321 = .ok (.iadd, 1) := by decide +kernel
theorem dL_law_1322 : decode cL_law 1322 = .ok (.iaload, 1) := by decide +kernel
theorem dL_law_1323 : decode cL_law 1323 = .ok (.aload_n 0, 1) := by decide +kernel
theorem dL_law_1324 : decode cL_law 1324 = .ok (.iload_n 3, 1) := by decide +kernel
theorem dL_law_1325 : decode cL_law 1325 = .ok (.iconst 2, 1) := by decide +kernel
theorem dL_law_1326 : decode cL_law 1326 = .ok (.iadd, 1) := by decide +kernel
theorem dL_law_1327 : decode cL_law 1327 = .ok (.iaload, 1) := by decide +kernel
theorem dL_law_1328 : decode cL_law 1328 = .ok (.ifCond .eq 7, 3) := by decide +kernel
theorem dL_law_1335 : decode cL_law 1335 = .ok (.iconst 0, 1) := by decide +kernel
theorem dL_law_1336 : decode cL_law 1336 = .ok (.invokevirtual 195, 3) := by decide +kernel
theorem dL_law_1339 : decode cL_law 1339 = .ok (.if_icmp .eq 209, 3) := by decide +kernel
theorem dL_law_1331 : decode cL_law 1331 = .ok (.iconst 1, 1) := by decide +kernel
theorem dL_law_1332 : decode cL_law 1332 = .ok (.goto 4, 3) := by decide +kernel
theorem dL_law_1309 : decode cL_law 1309 = .ok (.iconst 1, 1) := by decide +kernel
theorem dL_law_1310 : decode cL_law 1310 = .ok (.goto 4, 3) := by decide +kernel
theorem dL_law_1344 : decode cL_law 1344 = .ok (.aload_n 1, 1) := by decide +kernel
theorem dL_law_1345 : decode cL_law 1345 = .ok (.aload_n 0, 1) := by decide +kernel
theorem dL_law_1346 : decode cL_law 1346 = .ok (.iload_n 3, 1) := by decide +kernel
theorem dL_law_1347 : decode cL_law 1347 = .ok (.iconst 1, 1) := by decide +kernel
theorem dL_law_1348 : decode cL_law 1348 = .ok (.iadd, 1) := by decide +kernel
theorem dL_law_1349 : decode cL_law 1349 = .ok (.iaload, 1) := by decide +kernel
theorem dL_law_1350 : decode cL_law 1350 = .ok (.invokevirtual 196, 3) := by decide +kernel
theorem dL_law_1353 : decode cL_law 1353 = .ok (.aload_n 2, 1) := by decide +kernel
theorem dL_law_1354 : decode cL_law 1354 = .ok (.aload_n 0, 1) := by decide +kernel
theorem dL_law_1355 : decode cL_law 1355 = .ok (.iload_n 3, 1) := by decide +kernel
theorem dL_law_1356 : decode cL_law 1356 = .ok (.iconst 1, 1) := by decide +kernel
theorem dL_law_1357 : decode cL_law 1357 = .ok (.iadd, 1) := by decide +kernel
theorem dL_law_1358 : decode cL_law 1358 = .ok (.iaload, 1) := by decide +kernel
theorem dL_law_1359 : decode cL_law 1359 = .ok (.invokevirtual 200, 3) := by decide +kernel
theorem dL_law_1362 : decode cL_law 1362 = .ok (.if_icmp .eq 186, 3) := by decide +kernel
theorem dL_law_1367 : decode cL_law 1367 = .ok (.aload_n 1, 1) := by decide +kernel
theorem dL_law_1368 : decode cL_law 1368 = .ok (.aload_n 0, 1) := by decide +kernel
theorem dL_law_1369 : decode cL_law 1369 = .ok (.iload_n 3, 1) := by decide +kernel
theorem dL_law_1370 : decode cL_law 1370 = .ok (.iconst 1, 1) := by decide +kernel
theorem dL_law_1371 : decode cL_law 1371 = .ok (.iadd, 1) := by decide +kernel
theorem dL_law_1372 : decode cL_law 1372 = .ok (.iaload, 1) := by decide +kernel
theorem dL_law_1373 : decode cL_law 1373 = .ok (.invokevirtual 201, 3) := by decide +kernel
theorem dL_law_1376 : decode cL_law 1376 = .ok (.aload_n 2, 1) := by decide +kernel
theorem dL_law_1377 : decode cL_law 1377 = .ok (.aload_n 0, 1) := by decide +kernel
theorem dL_law_1378 : decode cL_law 1378 = .ok (.iload_n 3, 1) := by decide +kernel
theorem dL_law_1379 : decode cL_law 1379 = .ok (.iconst 1, 1) := by decide +kernel
theorem dL_law_1380 : decode cL_law 1380 = .ok (.iadd, 1) := by decide +kernel
theorem dL_law_1381 : decode cL_law 1381 = .ok (.iaload, 1) := by decide +kernel
theorem dL_law_1382 : decode cL_law 1382 = .ok (.invokevirtual 204, 3) := by decide +kernel
theorem dL_law_1385 : decode cL_law 1385 = .ok (.if_icmp .eq 163, 3) := by decide +kernel
theorem dL_law_1390 : decode cL_law 1390 = .ok (.aload_n 1, 1) := by decide +kernel
theorem dL_law_1391 : decode cL_law 1391 = .ok (.aload_n 0, 1) := by decide +kernel
theorem dL_law_1392 : decode cL_law 1392 = .ok (.iload_n 3, 1) := by decide +kernel
theorem dL_law_1393 : decode cL_law 1393 = .ok (.iconst 1, 1) := by decide +kernel
theorem dL_law_1394 : decode cL_law 1394 = .ok (.iadd, 1) := by decide +kernel
theorem dL_law_1395 : decode cL_law 1395 = .ok (.iaload, 1) := by decide +kernel
theorem dL_law_1396 : decode cL_law 1396 = .ok (.invokevirtual 205, 3) := by decide +kernel
theorem dL_law_1399 : decode cL_law 1399 = .ok (.aload_n 2, 1) := by decide +kernel
theorem dL_law_1400 : decode cL_law 1400 = .ok (.aload_n 0, 1) := by decide +kernel
theorem dL_law_1401 : decode cL_law 1401 = .ok (.iload_n 3, 1) := by decide +kernel
theorem dL_law_1402 : decode cL_law 1402 = .ok (.iconst 1, 1) := by decide +kernel
theorem dL_law_1403 : decode cL_law 1403 = .ok (.iadd, 1) := by decide +kernel
theorem dL_law_1404 : decode cL_law 1404 = .ok (.iaload, 1) := by decide +kernel
theorem dL_law_1405 : decode cL_law 1405 = .ok (.invokevirtual 208, 3) := by decide +kernel
theorem dL_law_1408 : decode cL_law 1408 = .ok (.if_icmp .eq 140, 3) := by decide +kernel
theorem dL_law_1413 : decode cL_law 1413 = .ok (.aload_n 1, 1) := by decide +kernel
theorem dL_law_1414 : decode cL_law 1414 = .ok (.aload_n 0, 1) := by decide +kernel
theorem dL_law_1415 : decode cL_law 1415 = .ok (.iload_n 3, 1) := by decide +kernel
theorem dL_law_1416 : decode cL_law 1416 = .ok (.iconst 1, 1) := by decide +kernel
theorem dL_law_1417 : decode cL_law 1417 = .ok (.iadd, 1) := by decide +kernel
theorem dL_law_1418 : decode cL_law 1418 = .ok (.iaload, 1) := by decide +kernel
theorem dL_law_1419 : decode cL_law 1419 = .ok (.aload_n 0, 1) := by decide +kernel
theorem dL_law_1420 : decode cL_law 1420 = .ok (.iload_n 3, 1) := by decide +kernel
theorem dL_law_1421 : decode cL_law 1421 = .ok (.iconst 2, 1) := by decide +kernel
theorem dL_law_1422 : decode cL_law 1422 = .ok (.iadd, 1) := by decide +kernel
theorem dL_law_1423 : decode cL_law 1423 = .ok (.iaload, 1) := by decide +kernel
theorem dL_law_1424 : decode cL_law 1424 = .ok (.invokevirtual 209, 3) := by decide +kernel
theorem dL_law_1427 : decode cL_law 1427 = .ok (.aload_n 2, 1) := by decide +kernel
theorem dL_law_1428 : decode cL_law 1428 = .ok (.aload_n 0, 1) := by decide +kernel
theorem dL_law_1429 : decode cL_law 1429 = .ok (.iload_n 3, 1) := by decide +kernel
theorem dL_law_1430 : decode cL_law 1430 = .ok (.iconst 1, 1) := by decide +kernel
theorem dL_law_1431 : decode cL_law 1431 = .ok (.iadd, 1) := by decide +kernel
theorem dL_law_1432 : decode cL_law 1432 = .ok (.iaload, 1) := by decide +kernel
theorem dL_law_1433 : decode cL_law 1433 = .ok (.aload_n 0, 1) := by decide +kernel
theorem dL_law_1434 : decode cL_law 1434 = .ok (.iload_n 3, 1) := by decide +kernel
theorem dL_law_1435 : decode cL_law 1435 = .ok (.iconst 2, 1) := by decide +kernel
theorem dL_law_1436 : decode cL_law 1436 = .ok (.iadd, 1) := by decide +kernel
theorem dL_law_1437 : decode cL_law 1437 = .ok (.iaload, 1) := by decide +kernel
theorem dL_law_1438 : decode cL_law 1438 = .ok (.invokevirtual 212, 3) := by decide +kernel
theorem dL_law_1441 : decode cL_law 1441 = .ok (.if_icmp .eq 107, 3) := by decide +kernel
theorem dL_law_1446 : decode cL_law 1446 = .ok (.aload_n 1, 1) := by decide +kernel
theorem dL_law_1447 : decode cL_law 1447 = .ok (.aload_n 0, 1) := by decide +kernel
theorem dL_law_1448 : decode cL_law 1448 = .ok (.iload_n 3, 1) := by decide +kernel
theorem dL_law_1449 : decode cL_law 1449 = .ok (.iconst 1, 1) := by decide +kernel
theorem dL_law_1450 : decode cL_law 1450 = .ok (.iadd, 1) := by decide +kernel
theorem dL_law_1451 : decode cL_law 1451 = .ok (.iaload, 1) := by decide +kernel
theorem dL_law_1452 : decode cL_law 1452 = .ok (.aload_n 0, 1) := by decide +kernel
theorem dL_law_1453 : decode cL_law 1453 = .ok (.iload_n 3, 1) := by decide +kernel
theorem dL_law_1454 : decode cL_law 1454 = .ok (.iconst 2, 1) := by decide +kernel
theorem dL_law_1455 : decode cL_law 1455 = .ok (.iadd, 1) := by decide +kernel
theorem dL_law_1456 : decode cL_law 1456 = .ok (.iaload, 1) := by decide +kernel
theorem dL_law_1457 : decode cL_law 1457 = .ok (.invokevirtual 213, 3) := by decide +kernel
theorem dL_law_1460 : decode cL_law 1460 = .ok (.aload_n 2, 1) := by decide +kernel
theorem dL_law_1461 : decode cL_law 1461 = .ok (.aload_n 0, 1) := by decide +kernel
theorem dL_law_1462 : decode cL_law 1462 = .ok (.iload_n 3, 1) := by decide +kernel
theorem dL_law_1463 : decode cL_law 1463 = .ok (.iconst 1, 1) := by decide +kernel
theorem dL_law_1464 : decode cL_law 1464 = .ok (.iadd, 1) := by decide +kernel
theorem dL_law_1465 : decode cL_law 1465 = .ok (.iaload, 1) := by decide +kernel
theorem dL_law_1466 : decode cL_law 1466 = .ok (.aload_n 0, 1) := by decide +kernel
theorem dL_law_1467 : decode cL_law 1467 = .ok (.iload_n 3, 1) := by decide +kernel
theorem dL_law_1468 : decode cL_law 1468 = .ok (.iconst 2, 1) := by decide +kernel
theorem dL_law_1469 : decode cL_law 1469 = .ok (.iadd, 1) := by decide +kernel
theorem dL_law_1470 : decode cL_law 1470 = .ok (.iaload, 1) := by decide +kernel
theorem dL_law_1471 : decode cL_law 1471 = .ok (.invokevirtual 216, 3) := by decide +kernel
theorem dL_law_1474 : decode cL_law 1474 = .ok (.if_icmp .eq 74, 3) := by decide +kernel
theorem dL_law_1479 : decode cL_law 1479 = .ok (.aload_n 1, 1) := by decide +kernel
theorem dL_law_1480 : decode cL_law 1480 = .ok (.aload_n 0, 1) := by decide +kernel
theorem dL_law_1481 : decode cL_law 1481 = .ok (.iload_n 3, 1) := by decide +kernel
theorem dL_law_1482 : decode cL_law 1482 = .ok (.iconst 1, 1) := by decide +kernel
theorem dL_law_1483 : decode cL_law 1483 = .ok (.iadd, 1) := by decide +kernel
theorem dL_law_1484 : decode cL_law 1484 = .ok (.iaload, 1) := by decide +kernel
theorem dL_law_1485 : decode cL_law 1485 = .ok (.invokevirtual 217, 3) := by decide +kernel
theorem dL_law_1488 : decode cL_law 1488 = .ok (.aload_n 2, 1) := by decide +kernel
theorem dL_law_1489 : decode cL_law 1489 = .ok (.aload_n 0, 1) := by decide +kernel
theorem dL_law_1490 : decode cL_law 1490 = .ok (.iload_n 3, 1) := by decide +kernel
theorem dL_law_1491 : decode cL_law 1491 = .ok (.iconst 1, 1) := by decide +kernel
theorem dL_law_1492 : decode cL_law 1492 = .ok (.iadd, 1) := by decide +kernel
theorem dL_law_1493 : decode cL_law 1493 = .ok (.iaload, 1) := by decide +kernel
theorem dL_law_1494 : decode cL_law 1494 = .ok (.invokevirtual 220, 3) := by decide +kernel
theorem dL_law_1497 : decode cL_law 1497 = .ok (.if_icmp .eq 51, 3) := by decide +kernel
theorem dL_law_1502 : decode cL_law 1502 = .ok (.aload_n 1, 1) := by decide +kernel
theorem dL_law_1503 : decode cL_law 1503 = .ok (.aload_n 0, 1) := by decide +kernel
theorem dL_law_1504 : decode cL_law 1504 = .ok (.iload_n 3, 1) := by decide +kernel
theorem dL_law_1505 : decode cL_law 1505 = .ok (.iconst 1, 1) := by decide +kernel
theorem dL_law_1506 : decode cL_law 1506 = .ok (.iadd, 1) := by decide +kernel
theorem dL_law_1507 : decode cL_law 1507 = .ok (.iaload, 1) := by decide +kernel
theorem dL_law_1508 : decode cL_law 1508 = .ok (.invokevirtual 221, 3) := by decide +kernel
theorem dL_law_1511 : decode cL_law 1511 = .ok (.aload_n 2, 1) := by decide +kernel
theorem dL_law_1512 : decode cL_law 1512 = .ok (.aload_n 0, 1) := by decide +kernel
theorem dL_law_1513 : decode cL_law 1513 = .ok (.iload_n 3, 1) := by decide +kernel
theorem dL_law_1514 : decode cL_law 1514 = .ok (.iconst 1, 1) := by decide +kernel
theorem dL_law_1515 : decode cL_law 1515 = .ok (.iadd, 1) := by decide +kernel
theorem dL_law_1516 : decode cL_law 1516 = .ok (.iaload, 1) := by decide +kernel
theorem dL_law_1517 : decode cL_law 1517 = .ok (.invokevirtual 224, 3) := by decide +kernel
theorem dL_law_1520 : decode cL_law 1520 = .ok (.if_icmp .eq 28, 3) := by decide +kernel
theorem dL_law_1525 : decode cL_law 1525 = .ok (.aload_n 1, 1) := by decide +kernel
theorem dL_law_1526 : decode cL_law 1526 = .ok (.aload_n 0, 1) := by decide +kernel
theorem dL_law_1527 : decode cL_law 1527 = .ok (.iload_n 3, 1) := by decide +kernel
theorem dL_law_1528 : decode cL_law 1528 = .ok (.iconst 1, 1) := by decide +kernel
theorem dL_law_1529 : decode cL_law 1529 = .ok (.iadd, 1) := by decide +kernel
theorem dL_law_1530 : decode cL_law 1530 = .ok (.iaload, 1) := by decide +kernel
theorem dL_law_1531 : decode cL_law 1531 = .ok (.invokevirtual 225, 3) := by decide +kernel
theorem dL_law_1534 : decode cL_law 1534 = .ok (.aload_n 2, 1) := by decide +kernel
theorem dL_law_1535 : decode cL_law 1535 = .ok (.aload_n 0, 1) := by decide +kernel
theorem dL_law_1536 : decode cL_law 1536 = .ok (.iload_n 3, 1) := by decide +kernel
theorem dL_law_1537 : decode cL_law 1537 = .ok (.iconst 1, 1) := by decide +kernel
theorem dL_law_1538 : decode cL_law 1538 = .ok (.iadd, 1) := by decide +kernel
theorem dL_law_1539 : decode cL_law 1539 = .ok (.iaload, 1) := by decide +kernel
theorem dL_law_1540 : decode cL_law 1540 = .ok (.invokevirtual 228, 3) := by decide +kernel
theorem dL_law_1543 : decode cL_law 1543 = .ok (.if_icmp .eq 5, 3) := by decide +kernel
theorem dL_law_33 : decode cL_law 33 = .ok (.tableswitch 1515 0 51 #[223, 286, 309, 322, 345, 368, 401, 434, 467, 500, 533, 546, 569, 592, 605, 618, 651, 684, 707, 730, 763, 806, 839, 862, 875, 898, 931, 944, 957, 970, 993, 1006, 1019, 1042, 1065, 1078, 1101, 1124, 1147, 1170, 1183, 1206, 1239, 1262, 1311, 1334, 1357, 1380, 1413, 1446, 1469, 1492], 223) := by decide +kernel
theorem dL_law_0 : decode cL_law 0 = .ok (.new 7, 3) := by decide +kernel
theorem dL_law_3 : decode cL_law 3 = .ok (.dup, 1) := by decide +kernel
theorem dL_law_4 : decode cL_law 4 = .ok (.invokespecial 9, 3) := by decide +kernel
theorem dL_law_7 : decode cL_law 7 = .ok (.astore_n 1, 1) := by decide +kernel
theorem dL_law_8 : decode cL_law 8 = .ok (.new 10, 3) := by decide +kernel
theorem dL_law_11 : decode cL_law 11 = .ok (.dup, 1) := by decide +kernel
theorem dL_law_12 : decode cL_law 12 = .ok (.invokespecial 12, 3) := by decide +kernel
theorem dL_law_15 : decode cL_law 15 = .ok (.astore_n 2, 1) := by decide +kernel
theorem dL_law_16 : decode cL_law 16 = .ok (.iconst 0, 1) := by decide +kernel
theorem dL_law_17 : decode cL_law 17 = .ok (.istore_n 3, 1) := by decide +kernel
theorem dL_law_18 : decode cL_law 18 = .ok (.iload_n 3, 1) := by decide +kernel
theorem dL_law_19 : decode cL_law 19 = .ok (.aload_n 0, 1) := by decide +kernel
theorem dL_law_20 : decode cL_law 20 = .ok (.arraylength, 1) := by decide +kernel
theorem dL_law_21 : decode cL_law 21 = .ok (.bipush 6, 2) := by decide +kernel
theorem dL_law_23 : decode cL_law 23 = .ok (.isub, 1) := by decide +kernel
theorem dL_law_24 : decode cL_law 24 = .ok (.if_icmp .gt 1530, 3) := by decide +kernel
theorem dL_law_1554 : decode cL_law 1554 = .ok (.iconst 1, 1) := by decide +kernel
theorem dL_law_1555 : decode cL_law 1555 = .ok (.ireturn, 1) := by decide +kernel
theorem dL_law_27 : decode cL_law 27 = .ok (.aload_n 0, 1) := by decide +kernel
theorem dL_law_28 : decode cL_law 28 = .ok (.iload_n 3, 1) := by decide +kernel
theorem dL_law_29 : decode cL_law 29 = .ok (.iaload, 1) := by decide +kernel
theorem dL_law_30 : decode cL_law 30 = .ok (.bipush 63, 2) := by decide +kernel
theorem dL_law_32 : decode cL_law 32 = .ok (.iand, 1) := by decide +kernel
theorem dL_law_1548 : decode cL_law 1548 = .ok (.iinc 3 6, 3) := by decide +kernel
theorem dL_law_1551 : decode cL_law 1551 = .ok (.goto (-1533), 3) := by decide +kernel
