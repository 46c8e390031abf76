theorem dX6_worst_95 : decode cX6_worst 95 = .ok (.invokevirtual 273, 3) := by decide +kernel
theorem dX6_worst_98 : decode cX6_worst 98 = .ok (.istore 4, 2) := by decide +kernel
theorem dX6_worst_100 : decode cX6_worst 100 = .ok (.iload 6, 2) := by decide +kernel
theorem dX6_worst_102 : decode cX6_worst 102 = .ok (.istore 5, 2) := by decide +kernel
theorem dX6_worst_104 : decode cX6_worst 104 = .ok (.iinc 6 1, 3) := by decide +kernel
theorem dX6_worst_107 : decode cX6_worst 107 = .ok (.goto (-58), 3) := by decide +kernel
theorem dX6_worst_110 : decode cX6_worst 110 = .ok (.iload_n 2, 1) := by decide +kernel
theorem dX6_worst_111 : decode cX6_worst 111 = .ok (.ifCond .ne 8, 3) := by decide +kernel
theorem dX6_worst_114 : decode cX6_worst 114 = .ok (.iload 4, 2) := by decide +kernel
theorem dX6_worst_116 : decode cX6_worst 116 = .ok (.goto 5, 3) := by decide +kernel
theorem dX6_worst_119 : decode cX6_worst 119 = .ok (.iload 5, 2) := by decide +kernel
theorem dX6_worst_121 : decode cX6_worst 121 = .ok (.ireturn, 1) := by decide +kernel
theorem dX6_safe_0 : decode cX6_safe 0 = .ok (.iconst (-1), 1) := by decide +kernel
theorem dX6_safe_1 : decode cX6_safe 1 = .ok (.istore_n 1, 1) := by decide +kernel
theorem dX6_safe_2 : decode cX6_safe 2 = .ok (.iconst 0, 1) := by decide +kernel
theorem dX6_safe_3 : decode cX6_safe 3 = .ok (.istore_n 2, 1) := by decide +kernel
theorem dX6_safe_4 : decode cX6_safe 4 = .ok (.iload_n 2, 1) := by decide +kernel
theorem dX6_safe_5 : decode cX6_safe 5 = .ok (.aload_n 0, 1) := by decide +kernel
theorem dX6_safe_6 : decode cX6_safe 6 = .ok (.getfield 110, 3) := by decide +kernel
theorem dX6_safe_9 : decode cX6_safe 9 = .ok (.getfield 157, 3) := by decide +kernel
theorem dX6_safe_12 : decode cX6_safe 12 = .ok (.if_icmp .ge 38, 3) := by decide +kernel
theorem dX6_safe_15 : decode cX6_safe 15 = .ok (.aload_n 0, 1) := by decide +kernel
theorem dX6_safe_16 : decode cX6_safe 16 = .ok (.getfield 110, 3) := by decide +kernel
theorem dX6_safe_19 : decode cX6_safe 19 = .ok (.getfield 170, 3) := by decide +kernel
theorem dX6_safe_22 : decode cX6_safe 22 = .ok (.aload_n 0, 1) := by decide +kernel
theorem dX6_safe_23 : decode cX6_safe 23 = .ok (.getfield 110, 3) := by decide +kernel
theorem dX6_safe_26 : decode cX6_safe 26 = .ok (.getfield 160, 3) := by decide +kernel
theorem dX6_safe_29 : decode cX6_safe 29 = .ok (.iload_n 2, 1) := by decide +kernel
theorem dX6_safe_30 : decode cX6_safe 30 = .ok (.iaload, 1) := by decide +kernel
theorem dX6_safe_31 : decode cX6_safe 31 = .ok (.iaload, 1) := by decide +kernel
theorem dX6_safe_32 : decode cX6_safe 32 = .ok (.aload_n 0, 1) := by decide +kernel
theorem dX6_safe_33 : decode cX6_safe 33 = .ok (.getfield 110, 3) := by decide +kernel
theorem dX6_safe_36 : decode cX6_safe 36 = .ok (.invokevirtual 204, 3) := by decide +kernel
theorem dX6_safe_39 : decode cX6_safe 39 = .ok (.if_icmp .lt 5, 3) := by decide +kernel
theorem dX6_safe_42 : decode cX6_safe 42 = .ok (.iload_n 2, 1) := by decide +kernel
theorem dX6_safe_43 : decode cX6_safe 43 = .ok (.istore_n 1, 1) := by decide +kernel
theorem dX6_safe_44 : decode cX6_safe 44 = .ok (.iinc 2 1, 3) := by decide +kernel
theorem dX6_safe_47 : decode cX6_safe 47 = .ok (.goto (-43), 3) := by decide +kernel
theorem dX6_safe_50 : decode cX6_safe 50 = .ok (.iload_n 1, 1) := by decide +kernel
theorem dX6_safe_51 : decode cX6_safe 51 = .ok (.ireturn, 1) := by decide +kernel
theorem dX6_answered_0 : decode cX6_answered 0 = .ok (.aload_n 0, 1) := by decide +kernel
theorem dX6_answered_1 : decode cX6_answered 1 = .ok (.getfield 110, 3) := by decide +kernel
theorem dX6_answered_4 : decode cX6_answered 4 = .ok (.getfield 157, 3) := by decide +kernel
theorem dX6_answered_7 : decode cX6_answered 7 = .ok (.ifCond .ne 7, 3) := by decide +kernel
theorem dX6_answered_10 : decode cX6_answered 10 = .ok (.iconst (-1), 1) := by decide +kernel
theorem dX6_answered_11 : decode cX6_answered 11 = .ok (.goto 10, 3) := by decide +kernel
theorem dX6_answered_14 : decode cX6_answered 14 = .ok (.aload_n 0, 1) := by decide +kernel
theorem dX6_answered_15 : decode cX6_answered 15 = .ok (.getfield 110, 3) := by decide +kernel
theorem dX6_answered_18 : decode cX6_answered 18 = .ok (.invokevirtual 204, 3) := by decide +kernel
theorem dX6_answered_21 : decode cX6_answered 21 = .ok (.ireturn, 1) := by decide +kernel
theorem dX6_soonest_0 : decode cX6_soonest 0 = .ok (.aload_n 0, 1) := by decide +kernel
theorem dX6_soonest_1 : decode cX6_soonest 1 = .ok (.iconst 0, 1) := by decide +kernel
theorem dX6_soonest_2 : decode cX6_soonest 2 = .ok (.putfield 116, 3) := by decide +kernel
theorem dX6_soonest_5 : decode cX6_soonest 5 = .ok (.aload_n 0, 1) := by decide +kernel
theorem dX6_soonest_6 : decode cX6_soonest 6 = .ok (.getfield 110, 3) := by decide +kernel
theorem dX6_soonest_9 : decode cX6_soonest 9 = .ok (.getfield 157, 3) := by decide +kernel
theorem dX6_soonest_12 : decode cX6_soonest 12 = .ok (.ifCond .ne 5, 3) := by decide +kernel
theorem dX6_soonest_15 : decode cX6_soonest 15 = .ok (.iconst (-1), 1) := by decide +kernel
theorem dX6_soonest_16 : decode cX6_soonest 16 = .ok (.ireturn, 1) := by decide +kernel
theorem dX6_soonest_17 : decode cX6_soonest 17 = .ok (.aload_n 0, 1) := by decide +kernel
theorem dX6_soonest_18 : decode cX6_soonest 18 = .ok (.ldc 129, 2) := by decide +kernel
theorem dX6_soonest_20 : decode cX6_soonest 20 = .ok (.putfield 281, 3) := by decide +kernel
theorem dX6_soonest_23 : decode cX6_soonest 23 = .ok (.aload_n 0, 1) := by decide +kernel
theorem dX6_soonest_24 : decode cX6_soonest 24 = .ok (.iconst 0, 1) := by decide +kernel
theorem dX6_soonest_25 : decode cX6_soonest 25 = .ok (.iconst 0, 1) := by decide +kernel
theorem dX6_soonest_26 : decode cX6_soonest 26 = .ok (.iconst 0, 1) := by decide +kernel
theorem dX6_soonest_27 : decode cX6_soonest 27 = .ok (.invokevirtual 284, 3) := by decide +kernel
theorem dX6_soonest_30 : decode cX6_soonest 30 = .ok (.aload_n 0, 1) := by decide +kernel
theorem dX6_soonest_31 : decode cX6_soonest 31 = .ok (.aload_n 0, 1) := by decide +kernel
theorem dX6_soonest_32 : decode cX6_soonest 32 = .ok (.getfield 110, 3) := by decide +kernel
theorem dX6_soonest_35 : decode cX6_soonest 35 = .ok (.getfield 157, 3) := by decide +kernel
theorem dX6_soonest_38 : decode cX6_soonest 38 = .ok (.putfield 116, 3) := by decide +kernel
theorem dX6_soonest_41 : decode cX6_soonest 41 = .ok (.aload_n 0, 1) := by decide +kernel
theorem dX6_soonest_42 : decode cX6_soonest 42 = .ok (.getfield 281, 3) := by decide +kernel
theorem dX6_soonest_45 : decode cX6_soonest 45 = .ok (.ireturn, 1) := by decide +kernel
theorem dX6_tryOrders_0 : decode cX6_tryOrders 0 = .ok (.iload_n 3, 1) := by decide +kernel
theorem dX6_tryOrders_1 : decode cX6_tryOrders 1 = .ok (.aload_n 0, 1) := by decide +kernel
theorem dX6_tryOrders_2 : decode cX6_tryOrders 2 = .ok (.getfield 281, 3) := by decide +kernel
theorem dX6_tryOrders_5 : decode cX6_tryOrders 5 = .ok (.if_icmp .lt 4, 3) := by decide +kernel
theorem dX6_tryOrders_8 : decode cX6_tryOrders 8 = .ok (.return_, 1) := by decide +kernel
theorem dX6_tryOrders_9 : decode cX6_tryOrders 9 = .ok (.iload_n 1, 1) := by decide +kernel
theorem dX6_tryOrders_10 : decode cX6_tryOrders 10 = .ok (.aload_n 0, 1) := by decide +kernel
theorem dX6_tryOrders_11 : decode cX6_tryOrders 11 = .ok (.getfield 110, 3) := by decide +kernel
theorem dX6_tryOrders_14 : decode cX6_tryOrders 14 = .ok (.getfield 157, 3) := by decide +kernel
theorem dX6_tryOrders_17 : decode cX6_tryOrders 17 = .ok (.if_icmp .ge 12, 3) := by decide +kernel
theorem dX6_tryOrders_20 : decode cX6_tryOrders 20 = .ok (.iload_n 1, 1) := by decide +kernel
theorem dX6_tryOrders_21 : decode cX6_tryOrders 21 = .ok (.aload_n 0, 1) := by decide +kernel
theorem dX6_tryOrders_22 : decode cX6_tryOrders 22 = .ok (.getfield 63, 3) := by decide +kernel
theorem dX6_tryOrders_25 : decode cX6_tryOrders 25 = .ok (.arraylength, 1) := by decide +kernel
theorem dX6_tryOrders_26 : decode cX6_tryOrders 26 = .ok (.if_icmp .lt 9, 3) := by decide +kernel
theorem dX6_tryOrders_29 : decode cX6_tryOrders 29 = .ok (.aload_n 0, 1) := by decide +kernel
theorem dX6_tryOrders_30 : decode cX6_tryOrders 30 = .ok (.iload_n 3, 1) := by decide +kernel
theorem dX6_tryOrders_31 : decode cX6_tryOrders 31 = .ok (.invokevirtual 288, 3) := by decide +kernel
theorem dX6_tryOrders_34 : decode cX6_tryOrders 34 = .ok (.return_, 1) := by decide +kernel
theorem dX6_tryOrders_35 : decode cX6_tryOrders 35 = .ok (.aload_n 0, 1) := by decide +kernel
theorem dX6_tryOrders_36 : decode cX6_tryOrders 36 = .ok (.getfield 110, 3) := by decide +kernel
theorem dX6_tryOrders_39 : decode cX6_tryOrders 39 = .ok (.invokevirtual 270, 3) := by decide +kernel
theorem dX6_tryOrders_42 : decode cX6_tryOrders 42 = .ok (.iload_n 2, 1) := by decide +kernel
theorem dX6_tryOrders_43 : decode cX6_tryOrders 43 = .ok (.iconst (-1), 1) := by decide +kernel
theorem dX6_tryOrders_44 : decode cX6_tryOrders 44 = .ok (.ixor, 1) := by decide +kernel
theorem dX6_tryOrders_45 : decode cX6_tryOrders 45 = .ok (.iand, 1) := by decide +kernel
theorem dX6_tryOrders_46 : decode cX6_tryOrders 46 = .ok (.istore 4, 2) := by decide +kernel
theorem dX6_tryOrders_48 : decode cX6_tryOrders 48 = .ok (.iconst 0, 1) := by decide +kernel
theorem dX6_tryOrders_49 : decode cX6_tryOrders 49 = .ok (.istore 5, 2) := by decide +kernel
theorem dX6_tryOrders_51 : decode cX6_tryOrders 51 = .ok (.iload 5, 2) := by decide +kernel
theorem dX6_tryOrders_53 : decode cX6_tryOrders 53 = .ok (.bipush 8, 2) := by decide +kernel
theorem dX6_tryOrders_55 : decode cX6_tryOrders 55 = .ok (.if_icmp .ge 29, 3) := by decide +kernel
theorem dX6_tryOrders_58 : decode cX6_tryOrders 58 = .ok (.iload 4, 2) := by decide +kernel
theorem dX6_tryOrders_60 : decode cX6_tryOrders 60 = .ok (.iload 5, 2) := by decide +kernel
theorem dX6_tryOrders_62 : decode cX6_tryOrders 62 = .ok (.ishr, 1) := by decide +kernel
theorem dX6_tryOrders_63 : decode cX6_tryOrders 63 = .ok (.iconst 1, 1) := by decide +kernel
theorem dX6_tryOrders_64 : decode cX6_tryOrders 64 = .ok (.iand, 1) := by decide +kernel
theorem dX6_tryOrders_65 : decode cX6_tryOrders 65 = .ok (.iconst 1, 1) := by decide +kernel
theorem dX6_tryOrders_66 : decode cX6_tryOrders 66 = .ok (.if_icmp .ne 12, 3) := by decide +kernel
theorem dX6_tryOrders_69 : decode cX6_tryOrders 69 = .ok (.aload_n 0, 1) := by decide +kernel
theorem dX6_tryOrders_70 : decode cX6_tryOrders 70 = .ok (.iload 5, 2) := by decide +kernel
theorem dX6_tryOrders_72 : decode cX6_tryOrders 72 = .ok (.iload_n 1, 1) := by decide +kernel
theorem dX6_tryOrders_73 : decode cX6_tryOrders 73 = .ok (.iload_n 2, 1) := by decide +kernel
theorem dX6_tryOrders_74 : decode cX6_tryOrders 74 = .ok (.iload_n 3, 1) := by decide +kernel
theorem dX6_tryOrders_75 : decode cX6_tryOrders 75 = .ok (.invokevirtual 291, 3) := by decide +kernel
theorem dX6_tryOrders_78 : decode cX6_tryOrders 78 = .ok (.iinc 5 1, 3) := by decide +kernel
theorem dX6_tryOrders_81 : decode cX6_tryOrders 81 = .ok (.goto (-30), 3) := by decide +kernel
theorem dX6_tryOrders_84 : decode cX6_tryOrders 84 = .ok (.return_, 1) := by decide +kernel
theorem dX6_tryOrdersWith_0 : decode cX6_tryOrdersWith 0 = .ok (.iload_n 2, 1) := by decide +kernel
theorem dX6_tryOrdersWith_1 : decode cX6_tryOrdersWith 1 = .ok (.ifCond .ne 7, 3) := by decide +kernel
theorem dX6_tryOrdersWith_4 : decode cX6_tryOrdersWith 4 = .ok (.iconst 0, 1) := by decide +kernel
theorem dX6_tryOrdersWith_5 : decode cX6_tryOrdersWith 5 = .ok (.goto 35, 3) := by decide +kernel
theorem dX6_tryOrdersWith_8 : decode cX6_tryOrdersWith 8 = .ok (.aload_n 0, 1) := by decide +kernel
theorem dX6_tryOrdersWith_9 : decode cX6_tryOrdersWith 9 = .ok (.getfield 16, 3) := by decide +kernel
theorem dX6_tryOrdersWith_12 : decode cX6_tryOrdersWith 12 = .ok (.getfield 138, 3) := by decide +kernel
theorem dX6_tryOrdersWith_15 : decode cX6_tryOrdersWith 15 = .ok (.aload_n 0, 1) := by decide +kernel
theorem dX6_tryOrdersWith_16 : decode cX6_tryOrdersWith 16 = .ok (.getfield 63, 3) := by decide +kernel
theorem dX6_tryOrdersWith_19 : decode cX6_tryOrdersWith 19 = .ok (.iload_n 2, 1) := by decide +kernel
theorem dX6_tryOrdersWith_20 : decode cX6_tryOrdersWith 20 = .ok (.iconst 1, 1) := by decide +kernel
theorem dX6_tryOrdersWith_21 : decode cX6_tryOrdersWith 21 = .ok (.isub, 1) := by decide +kernel
theorem dX6_tryOrdersWith_22 : decode cX6_tryOrdersWith 22 = .ok (.iaload, 1) := by decide +kernel
theorem dX6_tryOrdersWith_23 : decode cX6_tryOrdersWith 23 = .ok (.iload_n 1, 1) := by decide +kernel
theorem dX6_tryOrdersWith_24 : decode cX6_tryOrdersWith 24 = .ok (.iconst 1, 1) := by decide +kernel
theorem dX6_tryOrdersWith_25 : decode cX6_tryOrdersWith 25 = .ok (.iconst 0, 1) := by decide +kernel
theorem dX6_tryOrdersWith_26 : decode cX6_tryOrdersWith 26 = .ok (.iconst 0, 1) := by decide +kernel
theorem dX6_tryOrdersWith_27 : decode cX6_tryOrdersWith 27 = .ok (.aload_n 0, 1) := by decide +kernel
theorem dX6_tryOrdersWith_28 : decode cX6_tryOrdersWith 28 = .ok (.getfield 110, 3) := by decide +kernel
theorem dX6_tryOrdersWith_31 : decode cX6_tryOrdersWith 31 = .ok (.getfield 142, 3) := by decide +kernel
theorem dX6_tryOrdersWith_34 : decode cX6_tryOrdersWith 34 = .ok (.iload 4, 2) := by decide +kernel
theorem dX6_tryOrdersWith_36 : decode cX6_tryOrdersWith 36 = .ok (.iadd, 1) := by decide +kernel
theorem dX6_tryOrdersWith_37 : decode cX6_tryOrdersWith 37 = .ok (.invokevirtual 145, 3) := by decide +kernel
theorem dX6_tryOrdersWith_40 : decode cX6_tryOrdersWith 40 = .ok (.istore 5, 2) := by decide +kernel
theorem dX6_tryOrdersWith_42 : decode cX6_tryOrdersWith 42 = .ok (.aload_n 0, 1) := by decide +kernel
theorem dX6_tryOrdersWith_43 : decode cX6_tryOrdersWith 43 = .ok (.getfield 63, 3) := by decide +kernel
theorem dX6_tryOrdersWith_46 : decode cX6_tryOrdersWith 46 = .ok (.iload_n 2, 1) := by decide +kernel
theorem dX6_tryOrdersWith_47 : decode cX6_tryOrdersWith 47 = .ok (.iload_n 1, 1) := by decide +kernel
theorem dX6_tryOrdersWith_48 : decode cX6_tryOrdersWith 48 = .ok (.iastore, 1) := by decide +kernel
theorem dX6_tryOrdersWith_49 : decode cX6_tryOrdersWith 49 = .ok (.aload_n 0, 1) := by decide +kernel
theorem dX6_tryOrdersWith_50 : decode cX6_tryOrdersWith 50 = .ok (.iload_n 2, 1) := by decide +kernel
theorem dX6_tryOrdersWith_51 : decode cX6_tryOrdersWith 51 = .ok (.iconst 1, 1) := by decide +kernel
theorem dX6_tryOrdersWith_52 : decode cX6_tryOrdersWith 52 = .ok (.iadd, 1) := by decide +kernel
theorem dX6_tryOrdersWith_53 : decode cX6_tryOrdersWith 53 = .ok (.iload_n 3, 1) := by decide +kernel
theorem dX6_tryOrdersWith_54 : decode cX6_tryOrdersWith 54 = .ok (.iconst 1, 1) := by decide +kernel
theorem dX6_tryOrdersWith_55 : decode cX6_tryOrdersWith 55 = .ok (.iload_n 1, 1) := by decide +kernel
theorem dX6_tryOrdersWith_56 : decode cX6_tryOrdersWith 56 = .ok (.ishl, 1) := by decide +kernel
theorem dX6_tryOrdersWith_57 : decode cX6_tryOrdersWith 57 = .ok (.ior, 1) := by decide +kernel
theorem dX6_tryOrdersWith_58 : decode cX6_tryOrdersWith 58 = .ok (.iload 4, 2) := by decide +kernel
theorem dX6_tryOrdersWith_60 : decode cX6_tryOrdersWith 60 = .ok (.iload 5, 2) := by decide +kernel
theorem dX6_tryOrdersWith_62 : decode cX6_tryOrdersWith 62 = .ok (.iadd, 1) := by decide +kernel
theorem dX6_tryOrdersWith_63 : decode cX6_tryOrdersWith 63 = .ok (.invokevirtual 284, 3) := by decide +kernel
theorem dX6_tryOrdersWith_66 : decode cX6_tryOrdersWith 66 = .ok (.return_, 1) := by decide +kernel
theorem dX6_takeOrderIfSooner_0 : decode cX6_takeOrderIfSooner 0 = .ok (.aload_n 0, 1) := by decide +kernel
theorem dX6_takeOrderIfSooner_1 : decode cX6_takeOrderIfSooner 1 = .ok (.aload_n 0, 1) := by decide +kernel
theorem dX6_takeOrderIfSooner_2 : decode cX6_takeOrderIfSooner 2 = .ok (.getfield 110, 3) := by decide +kernel
theorem dX6_takeOrderIfSooner_5 : decode cX6_takeOrderIfSooner 5 = .ok (.getfield 157, 3) := by decide +kernel
theorem dX6_takeOrderIfSooner_8 : decode cX6_takeOrderIfSooner 8 = .ok (.iload_n 1, 1) := by decide +kernel
theorem dX6_takeOrderIfSooner_9 : decode cX6_takeOrderIfSooner 9 = .ok (.invokevirtual 134, 3) := by decide +kernel
theorem dX6_takeOrderIfSooner_12 : decode cX6_takeOrderIfSooner 12 = .ok (.istore_n 2, 1) := by decide +kernel
theorem dX6_takeOrderIfSooner_13 : decode cX6_takeOrderIfSooner 13 = .ok (.iload_n 2, 1) := by decide +kernel
theorem dX6_takeOrderIfSooner_14 : decode cX6_takeOrderIfSooner 14 = .ok (.aload_n 0, 1) := by decide +kernel
theorem dX6_takeOrderIfSooner_15 : decode cX6_takeOrderIfSooner 15 = .ok (.getfield 281, 3) := by decide +kernel
theorem dX6_takeOrderIfSooner_18 : decode cX6_takeOrderIfSooner 18 = .ok (.if_icmp .ge 28, 3) := by decide +kernel
theorem dX6_takeOrderIfSooner_21 : decode cX6_takeOrderIfSooner 21 = .ok (.aload_n 0, 1) := by decide +kernel
theorem dX6_takeOrderIfSooner_22 : decode cX6_takeOrderIfSooner 22 = .ok (.iload_n 2, 1) := by decide +kernel
theorem dX6_takeOrderIfSooner_23 : decode cX6_takeOrderIfSooner 23 = .ok (.putfield 281, 3) := by decide +kernel
theorem dX6_takeOrderIfSooner_26 : decode cX6_takeOrderIfSooner 26 = .ok (.aload_n 0, 1) := by decide +kernel
theorem dX6_takeOrderIfSooner_27 : decode cX6_takeOrderIfSooner 27 = .ok (.getfield 63, 3) := by decide +kernel
theorem dX6_takeOrderIfSooner_30 : decode cX6_takeOrderIfSooner 30 = .ok (.iconst 0, 1) := by decide +kernel
theorem dX6_takeOrderIfSooner_31 : decode cX6_takeOrderIfSooner 31 = .ok (.aload_n 0, 1) := by decide +kernel
theorem dX6_takeOrderIfSooner_32 : decode cX6_takeOrderIfSooner 32 = .ok (.getfield 59, 3) := by decide +kernel
theorem dX6_takeOrderIfSooner_35 : decode cX6_takeOrderIfSooner 35 = .ok (.iconst 0, 1) := by decide +kernel
theorem dX6_takeOrderIfSooner_36 : decode cX6_takeOrderIfSooner 36 = .ok (.aload_n 0, 1) := by decide +kernel
theorem dX6_takeOrderIfSooner_37 : decode cX6_takeOrderIfSooner 37 = .ok (.getfield 110, 3) := by decide +kernel
theorem dX6_takeOrderIfSooner_40 : decode cX6_takeOrderIfSooner 40 = .ok (.getfield 157, 3) := by decide +kernel
theorem dX6_takeOrderIfSooner_43 : decode cX6_takeOrderIfSooner 43 = .ok (.invokestatic 295, 3) := by decide +kernel
theorem dX6_takeOrderIfSooner_46 : decode cX6_takeOrderIfSooner 46 = .ok (.return_, 1) := by decide +kernel
theorem dX6_weed_0 : decode cX6_weed 0 = .ok (.iload_n 1, 1) := by decide +kernel
theorem dX6_weed_1 : decode cX6_weed 1 = .ok (.ifCond .lt 19, 3) := by decide +kernel
theorem dX6_weed_4 : decode cX6_weed 4 = .ok (.iload_n 1, 1) := by decide +kernel
theorem dX6_weed_5 : decode cX6_weed 5 = .ok (.iconst 1, 1) := by decide +kernel
theorem dX6_weed_6 : decode cX6_weed 6 = .ok (.if_icmp .gt 14, 3) := by decide +kernel
theorem dX6_weed_9 : decode cX6_weed 9 = .ok (.aload_n 0, 1) := by decide +kernel
theorem dX6_weed_10 : decode cX6_weed 10 = .ok (.getfield 110, 3) := by decide +kernel
theorem dX6_weed_13 : decode cX6_weed 13 = .ok (.getfield 157, 3) := by decide +kernel
theorem dX6_weed_16 : decode cX6_weed 16 = .ok (.iconst 2, 1) := by decide +kernel
theorem dX6_weed_17 : decode cX6_weed 17 = .ok (.if_icmp .ge 5, 3) := by decide +kernel
theorem dX6_weed_20 : decode cX6_weed 20 = .ok (.iconst (-1), 1) := by decide +kernel
theorem dX6_weed_21 : decode cX6_weed 21 = .ok (.ireturn, 1) := by decide +kernel
theorem dX6_weed_22 : decode cX6_weed 22 = .ok (.iconst (-1), 1) := by decide +kernel
theorem dX6_weed_23 : decode cX6_weed 23 = .ok (.istore_n 2, 1) := by decide +kernel
theorem dX6_weed_24 : decode cX6_weed 24 = .ok (.ldc 129, 2) := by decide +kernel
theorem dX6_weed_26 : decode cX6_weed 26 = .ok (.istore_n 3, 1) := by decide +kernel
theorem dX6_weed_27 : decode cX6_weed 27 = .ok (.iconst 0, 1) := by decide +kernel
theorem dX6_weed_28 : decode cX6_weed 28 = .ok (.istore 4, 2) := by decide +kernel
theorem dX6_weed_30 : decode cX6_weed 30 = .ok (.iload 4, 2) := by decide +kernel
theorem dX6_weed_32 : decode cX6_weed 32 = .ok (.aload_n 0, 1) := by decide +kernel
theorem dX6_weed_33 : decode cX6_weed 33 = .ok (.getfield 110, 3) := by decide +kernel
theorem dX6_weed_36 : decode cX6_weed 36 = .ok (.getfield 157, 3) := by decide +kernel
theorem dX6_weed_39 : decode cX6_weed 39 = .ok (.if_icmp .ge 95, 3) := by decide +kernel
theorem dX6_weed_42 : decode cX6_weed 42 = .ok (.aload_n 0, 1) := by decide +kernel
theorem dX6_weed_43 : decode cX6_weed 43 = .ok (.getfield 48, 3) := by decide +kernel
theorem dX6_weed_46 : decode cX6_weed 46 = .ok (.aload_n 0, 1) := by decide +kernel
theorem dX6_weed_47 : decode cX6_weed 47 = .ok (.getfield 110, 3) := by decide +kernel
theorem dX6_weed_50 : decode cX6_weed 50 = .ok (.invokevirtual 228, 3) := by decide +kernel
theorem dX6_weed_53 : decode cX6_weed 53 = .ok (.aload_n 0, 1) := by decide +kernel
theorem dX6_weed_54 : decode cX6_weed 54 = .ok (.getfield 37, 3) := by decide +kernel
theorem dX6_weed_57 : decode cX6_weed 57 = .ok (.aload_n 0, 1) := by decide +kernel
theorem dX6_weed_58 : decode cX6_weed 58 = .ok (.getfield 48, 3) := by decide +kernel
theorem dX6_weed_61 : decode cX6_weed 61 = .ok (.aload_n 0, 1) := by decide +kernel
theorem dX6_weed_62 : decode cX6_weed 62 = .ok (.getfield 110, 3) := by decide +kernel
theorem dX6_weed_65 : decode cX6_weed 65 = .ok (.getfield 160, 3) := by decide +kernel
theorem dX6_weed_68 : decode cX6_weed 68 = .ok (.iload 4, 2) := by decide +kernel
theorem dX6_weed_70 : decode cX6_weed 70 = .ok (.iaload, 1) := by decide +kernel
theorem dX6_weed_71 : decode cX6_weed 71 = .ok (.invokevirtual 242, 3) := by decide +kernel
theorem dX6_weed_74 : decode cX6_weed 74 = .ok (.istore 5, 2) := by decide +kernel
theorem dX6_weed_76 : decode cX6_weed 76 = .ok (.iload 5, 2) := by decide +kernel
theorem dX6_weed_78 : decode cX6_weed 78 = .ok (.ifCond .le 7, 3) := by decide +kernel
theorem dX6_weed_81 : decode cX6_weed 81 = .ok (.iconst (-1), 1) := by decide +kernel
theorem dX6_weed_82 : decode cX6_weed 82 = .ok (.goto 18, 3) := by decide +kernel
theorem dX6_weed_85 : decode cX6_weed 85 = .ok (.aload_n 0, 1) := by decide +kernel
theorem dX6_weed_86 : decode cX6_weed 86 = .ok (.aload_n 0, 1) := by decide +kernel
theorem dX6_weed_87 : decode cX6_weed 87 = .ok (.getfield 48, 3) := by decide +kernel
theorem dX6_weed_90 : decode cX6_weed 90 = .ok (.aload_n 0, 1) := by decide +kernel
theorem dX6_weed_91 : decode cX6_weed 91 = .ok (.getfield 48, 3) := by decide +kernel
theorem dX6_weed_94 : decode cX6_weed 94 = .ok (.invokevirtual 195, 3) := by decide +kernel
theorem dX6_weed_97 : decode cX6_weed 97 = .ok (.invokevirtual 264, 3) := by decide +kernel
theorem dX6_weed_100 : decode cX6_weed 100 = .ok (.istore 6, 2) := by decide +kernel
theorem dX6_weed_102 : decode cX6_weed 102 = .ok (.iload 6, 2) := by decide +kernel
theorem dX6_weed_104 : decode cX6_weed 104 = .ok (.iconst (-1), 1) := by decide +kernel
theorem dX6_weed_105 : decode cX6_weed 105 = .ok (.if_icmp .eq 23, 3) := by decide +kernel
theorem dX6_weed_108 : decode cX6_weed 108 = .ok (.iload 6, 2) := by decide +kernel
theorem dX6_weed_110 : decode cX6_weed 110 = .ok (.iload_n 3, 1) := by decide +kernel
theorem dX6_weed_111 : decode cX6_weed 111 = .ok (.if_icmp .ge 17, 3) := by decide +kernel
theorem dX6_weed_114 : decode cX6_weed 114 = .ok (.aload_n 0, 1) := by decide +kernel
theorem dX6_weed_115 : decode cX6_weed 115 = .ok (.getfield 110, 3) := by decide +kernel
theorem dX6_weed_118 : decode cX6_weed 118 = .ok (.getfield 160, 3) := by decide +kernel
theorem dX6_weed_121 : decode cX6_weed 121 = .ok (.iload 4, 2) := by decide +kernel
theorem dX6_weed_123 : decode cX6_weed 123 = .ok (.iaload, 1) := by decide +kernel
theorem dX6_weed_124 : decode cX6_weed 124 = .ok (.istore_n 2, 1) := by decide +kernel
theorem dX6_weed_125 : decode cX6_weed 125 = .ok (.iload 6, 2) := by decide +kernel
theorem dX6_weed_127 : decode cX6_weed 127 = .ok (.istore_n 3, 1) := by decide +kernel
theorem dX6_weed_128 : decode cX6_weed 128 = .ok (.iinc 4 1, 3) := by decide +kernel
theorem dX6_weed_131 : decode cX6_weed 131 = .ok (.goto (-101), 3) := by decide +kernel
theorem dX6_weed_134 : decode cX6_weed 134 = .ok (.iload_n 2, 1) := by decide +kernel
theorem dX6_weed_135 : decode cX6_weed 135 = .ok (.iconst (-1), 1) := by decide +kernel
theorem dX6_weed_136 : decode cX6_weed 136 = .ok (.if_icmp .ne 5, 3) := by decide +kernel
theorem dX6_weed_139 : decode cX6_weed 139 = .ok (.iconst (-1), 1) := by decide +kernel
theorem dX6_weed_140 : decode cX6_weed 140 = .ok (.ireturn, 1) := by decide +kernel
theorem dX6_weed_141 : decode cX6_weed 141 = .ok (.iload_n 1, 1) := by decide +kernel
theorem dX6_weed_142 : decode cX6_weed 142 = .ok (.ifCond .ne 7, 3) := by decide +kernel
theorem dX6_weed_145 : decode cX6_weed 145 = .ok (.iload_n 2, 1) := by decide +kernel
theorem dX6_weed_146 : decode cX6_weed 146 = .ok (.goto 4, 3) := by decide +kernel
theorem dX6_weed_149 : decode cX6_weed 149 = .ok (.iload_n 3, 1) := by decide +kernel
theorem dX6_weed_150 : decode cX6_weed 150 = .ok (.ireturn, 1) := by decide +kernel
theorem dX6_fullest_0 : decode cX6_fullest 0 = .ok (.iconst (-1), 1) := by decide +kernel
theorem dX6_fullest_1 : decode cX6_fullest 1 = .ok (.istore_n 1, 1) := by decide +kernel
theorem dX6_fullest_2 : decode cX6_fullest 2 = .ok (.iconst (-1), 1) := by decide +kernel
theorem dX6_fullest_3 : decode cX6_fullest 3 = .ok (.istore_n 2, 1) := by decide +kernel
theorem dX6_fullest_4 : decode cX6_fullest 4 = .ok (.iconst 0, 1) := by decide +kernel
theorem dX6_fullest_5 : decode cX6_fullest 5 = .ok (.istore_n 3, 1) := by decide +kernel
theorem dX6_fullest_6 : decode cX6_fullest 6 = .ok (.iload_n 3, 1) := by decide +kernel
theorem dX6_fullest_7 : decode cX6_fullest 7 = .ok (.aload_n 0, 1) := by decide +kernel
theorem dX6_fullest_8 : decode cX6_fullest 8 = .ok (.getfield 110, 3) := by decide +kernel
theorem dX6_fullest_11 : decode cX6_fullest 11 = .ok (.getfield 157, 3) := by decide +kernel
theorem dX6_fullest_14 : decode cX6_fullest 14 = .ok (.iconst 1, 1) := by decide +kernel
theorem dX6_fullest_15 : decode cX6_fullest 15 = .ok (.isub, 1) := by decide +kernel
theorem dX6_fullest_16 : decode cX6_fullest 16 = .ok (.if_icmp .ge 41, 3) := by decide +kernel
theorem dX6_fullest_19 : decode cX6_fullest 19 = .ok (.aload_n 0, 1) := by decide +kernel
theorem dX6_fullest_20 : decode cX6_fullest 20 = .ok (.getfield 110, 3) := by decide +kernel
theorem dX6_fullest_23 : decode cX6_fullest 23 = .ok (.iload_n 3, 1) := by decide +kernel
theorem dX6_fullest_24 : decode cX6_fullest 24 = .ok (.iconst 0, 1) := by decide +kernel
theorem dX6_fullest_25 : decode cX6_fullest 25 = .ok (.invokevirtual 189, 3) := by decide +kernel
theorem dX6_fullest_28 : decode cX6_fullest 28 = .ok (.aload_n 0, 1) := by decide +kernel
theorem dX6_fullest_29 : decode cX6_fullest 29 = .ok (.getfield 110, 3) := by decide +kernel
theorem dX6_fullest_32 : decode cX6_fullest 32 = .ok (.iload_n 3, 1) := by decide +kernel
theorem dX6_fullest_33 : decode cX6_fullest 33 = .ok (.iconst 1, 1) := by decide +kernel
theorem dX6_fullest_34 : decode cX6_fullest 34 = .ok (.invokevirtual 189, 3) := by decide +kernel
theorem dX6_fullest_37 : decode cX6_fullest 37 = .ok (.iadd, 1) := by decide +kernel
theorem dX6_fullest_38 : decode cX6_fullest 38 = .ok (.istore 4, 2) := by decide +kernel
theorem dX6_fullest_40 : decode cX6_fullest 40 = .ok (.iload 4, 2) := by decide +kernel
theorem dX6_fullest_42 : decode cX6_fullest 42 = .ok (.iload_n 2, 1) := by decide +kernel
theorem dX6_fullest_43 : decode cX6_fullest 43 = .ok (.if_icmp .le 8, 3) := by decide +kernel
theorem dX6_fullest_46 : decode cX6_fullest 46 = .ok (.iload 4, 2) := by decide +kernel
theorem dX6_fullest_48 : decode cX6_fullest 48 = .ok (.istore_n 2, 1) := by decide +kernel
theorem dX6_fullest_49 : decode cX6_fullest 49 = .ok (.iload_n 3, 1) := by decide +kernel
theorem dX6_fullest_50 : decode cX6_fullest 50 = .ok (.istore_n 1, 1) := by decide +kernel
theorem dX6_fullest_51 : decode cX6_fullest 51 = .ok (.iinc 3 1, 3) := by decide +kernel
theorem dX6_fullest_54 : decode cX6_fullest 54 = .ok (.goto (-48), 3) := by decide +kernel
theorem dX6_fullest_57 : decode cX6_fullest 57 = .ok (.iload_n 1, 1) := by decide +kernel
theorem dX6_fullest_58 : decode cX6_fullest 58 = .ok (.ireturn, 1) := by decide +kernel
theorem dX6_trip_0 : decode cX6_trip 0 = .ok (.aload_n 0, 1) := by decide +kernel
theorem dX6_trip_1 : decode cX6_trip 1 = .ok (.invokevirtual 211, 3) := by decide +kernel
theorem dX6_trip_4 : decode cX6_trip 4 = .ok (.ifCond .ne 5, 3) := by decide +kernel
theorem dX6_trip_7 : decode cX6_trip 7 = .ok (.iconst (-1), 1) := by decide +kernel
theorem dX6_trip_8 : decode cX6_trip 8 = .ok (.ireturn, 1) := by decide +kernel
theorem dX6_trip_9 : decode cX6_trip 9 = .ok (.aload_n 0, 1) := by decide +kernel
theorem dX6_trip_10 : decode cX6_trip 10 = .ok (.getfield 48, 3) := by decide +kernel
theorem dX6_trip_13 : decode cX6_trip 13 = .ok (.aload_n 0, 1) := by decide +kernel
theorem dX6_trip_14 : decode cX6_trip 14 = .ok (.getfield 110, 3) := by decide +kernel
theorem dX6_trip_17 : decode cX6_trip 17 = .ok (.invokevirtual 228, 3) := by decide +kernel
theorem dX6_trip_20 : decode cX6_trip 20 = .ok (.aload_n 0, 1) := by decide +kernel
theorem dX6_trip_21 : decode cX6_trip 21 = .ok (.getfield 37, 3) := by decide +kernel
theorem dX6_trip_24 : decode cX6_trip 24 = .ok (.aload_n 0, 1) := by decide +kernel
theorem dX6_trip_25 : decode cX6_trip 25 = .ok (.getfield 48, 3) := by decide +kernel
theorem dX6_trip_28 : decode cX6_trip 28 = .ok (.iconst 0, 1) := by decide +kernel
theorem dX6_trip_29 : decode cX6_trip 29 = .ok (.iconst 0, 1) := by decide +kernel
theorem dX6_trip_30 : decode cX6_trip 30 = .ok (.invokevirtual 221, 3) := by decide +kernel
theorem dX6_trip_33 : decode cX6_trip 33 = .ok (.istore_n 1, 1) := by decide +kernel
theorem dX6_trip_34 : decode cX6_trip 34 = .ok (.aload_n 0, 1) := by decide +kernel
theorem dX6_trip_35 : decode cX6_trip 35 = .ok (.aload_n 0, 1) := by decide +kernel
theorem dX6_trip_36 : decode cX6_trip 36 = .ok (.getfield 48, 3) := by decide +kernel
theorem dX6_trip_39 : decode cX6_trip 39 = .ok (.iload_n 1, 1) := by decide +kernel
theorem dX6_trip_40 : decode cX6_trip 40 = .ok (.invokevirtual 264, 3) := by decide +kernel
theorem dX6_trip_43 : decode cX6_trip 43 = .ok (.ireturn, 1) := by decide +kernel
theorem dX6_without_0 : decode cX6_without 0 = .ok (.aload_n 0, 1) := by decide +kernel
theorem dX6_without_1 : decode cX6_without 1 = .ok (.invokevirtual 211, 3) := by decide +kernel
theorem dX6_without_4 : decode cX6_without 4 = .ok (.ifCond .eq 22, 3) := by decide +kernel
theorem dX6_without_7 : decode cX6_without 7 = .ok (.aload_n 0, 1) := by decide +kernel
theorem dX6_without_8 : decode cX6_without 8 = .ok (.iload_n 1, 1) := by decide +kernel
theorem dX6_without_9 : decode cX6_without 9 = .ok (.invokevirtual 239, 3) := by decide +kernel
theorem dX6_without_12 : decode cX6_without 12 = .ok (.ifCond .eq 14, 3) := by decide +kernel
theorem dX6_without_15 : decode cX6_without 15 = .ok (.aload_n 0, 1) := by decide +kernel
theorem dX6_without_16 : decode cX6_without 16 = .ok (.getfield 110, 3) := by decide +kernel
theorem dX6_without_19 : decode cX6_without 19 = .ok (.getfield 157, 3) := by decide +kernel
theorem dX6_without_22 : decode cX6_without 22 = .ok (.iconst 2, 1) := by decide +kernel
theorem dX6_without_23 : decode cX6_without 23 = .ok (.if_icmp .ge 5, 3) := by decide +kernel
theorem dX6_without_26 : decode cX6_without 26 = .ok (.iconst (-1), 1) := by decide +kernel
theorem dX6_without_27 : decode cX6_without 27 = .ok (.ireturn, 1) := by decide +kernel
theorem dX6_without_28 : decode cX6_without 28 = .ok (.aload_n 0, 1) := by decide +kernel
theorem dX6_without_29 : decode cX6_without 29 = .ok (.getfield 48, 3) := by decide +kernel
theorem dX6_without_32 : decode cX6_without 32 = .ok (.aload_n 0, 1) := by decide +kernel
theorem dX6_without_33 : decode cX6_without 33 = .ok (.getfield 110, 3) := by decide +kernel
theorem dX6_without_36 : decode cX6_without 36 = .ok (.invokevirtual 228, 3) := by decide +kernel
theorem dX6_without_39 : decode cX6_without 39 = .ok (.aload_n 0, 1) := by decide +kernel
theorem dX6_without_40 : decode cX6_without 40 = .ok (.getfield 37, 3) := by decide +kernel
theorem dX6_without_43 : decode cX6_without 43 = .ok (.aload_n 0, 1) := by decide +kernel
theorem dX6_without_44 : decode cX6_without 44 = .ok (.getfield 48, 3) := by decide +kernel
theorem dX6_without_47 : decode cX6_without 47 = .ok (.iconst 0, 1) := by decide +kernel
theorem dX6_without_48 : decode cX6_without 48 = .ok (.iconst 0, 1) := by decide +kernel
theorem dX6_without_49 : decode cX6_without 49 = .ok (.invokevirtual 221, 3) := by decide +kernel
theorem dX6_without_52 : decode cX6_without 52 = .ok (.istore_n 2, 1) := by decide +kernel
theorem dX6_without_53 : decode cX6_without 53 = .ok (.aload_n 0, 1) := by decide +kernel
theorem dX6_without_54 : decode cX6_without 54 = .ok (.getfield 37, 3) := by decide +kernel
theorem dX6_without_57 : decode cX6_without 57 = .ok (.aload_n 0, 1) := by decide +kernel
theorem dX6_without_58 : decode cX6_without 58 = .ok (.getfield 48, 3) := by decide +kernel
theorem dX6_without_61 : decode cX6_without 61 = .ok (.iload_n 1, 1) := by decide +kernel
theorem dX6_without_62 : decode cX6_without 62 = .ok (.invokevirtual 242, 3) := by decide +kernel
theorem dX6_without_65 : decode cX6_without 65 = .ok (.pop, 1) := by decide +kernel
theorem dX6_without_66 : decode cX6_without 66 = .ok (.aload_n 0, 1) := by decide +kernel
theorem dX6_without_67 : decode cX6_without 67 = .ok (.getfield 48, 3) := by decide +kernel
theorem dX6_without_70 : decode cX6_without 70 = .ok (.invokevirtual 195, 3) := by decide +kernel
theorem dX6_without_73 : decode cX6_without 73 = .ok (.iload_n 2, 1) := by decide +kernel
theorem dX6_without_74 : decode cX6_without 74 = .ok (.if_icmp .ge 7, 3) := by decide +kernel
theorem dX6_without_77 : decode cX6_without 77 = .ok (.iconst (-1), 1) := by decide +kernel
theorem dX6_without_78 : decode cX6_without 78 = .ok (.goto 12, 3) := by decide +kernel
theorem dX6_without_81 : decode cX6_without 81 = .ok (.aload_n 0, 1) := by decide +kernel
theorem dX6_without_82 : decode cX6_without 82 = .ok (.aload_n 0, 1) := by decide +kernel
theorem dX6_without_83 : decode cX6_without 83 = .ok (.getfield 48, 3) := by decide +kernel
theorem dX6_without_86 : decode cX6_without 86 = .ok (.iload_n 2, 1) := by decide +kernel
theorem dX6_without_87 : decode cX6_without 87 = .ok (.invokevirtual 264, 3) := by decide +kernel
theorem dX6_without_90 : decode cX6_without 90 = .ok (.ireturn, 1) := by decide +kernel
theorem dX6_latest_0 : decode cX6_latest 0 = .ok (.aload_n 0, 1) := by decide +kernel
theorem dX6_latest_1 : decode cX6_latest 1 = .ok (.iload_n 1, 1) := by decide +kernel
theorem dX6_latest_2 : decode cX6_latest 2 = .ok (.invokevirtual 215, 3) := by decide +kernel
theorem dX6_latest_5 : decode cX6_latest 5 = .ok (.ifCond .eq 13, 3) := by decide +kernel
theorem dX6_latest_8 : decode cX6_latest 8 = .ok (.aload_n 0, 1) := by decide +kernel
theorem dX6_latest_9 : decode cX6_latest 9 = .ok (.getfield 110, 3) := by decide +kernel
theorem dX6_latest_12 : decode cX6_latest 12 = .ok (.getfield 157, 3) := by decide +kernel
theorem dX6_latest_15 : decode cX6_latest 15 = .ok (.ifCond .ne 7, 3) := by decide +kernel
theorem dX6_latest_18 : decode cX6_latest 18 = .ok (.iconst (-1), 1) := by decide +kernel
theorem dX6_latest_19 : decode cX6_latest 19 = .ok (.goto 18, 3) := by decide +kernel
theorem dX6_latest_22 : decode cX6_latest 22 = .ok (.aload_n 0, 1) := by decide +kernel
theorem dX6_latest_23 : decode cX6_latest 23 = .ok (.getfield 110, 3) := by decide +kernel
theorem dX6_latest_26 : decode cX6_latest 26 = .ok (.iload_n 1, 1) := by decide +kernel
theorem dX6_latest_27 : decode cX6_latest 27 = .ok (.aload_n 0, 1) := by decide +kernel
theorem dX6_latest_28 : decode cX6_latest 28 = .ok (.getfield 110, 3) := by decide +kernel
theorem dX6_latest_31 : decode cX6_latest 31 = .ok (.invokevirtual 195, 3) := by decide +kernel
theorem dX6_latest_34 : decode cX6_latest 34 = .ok (.invokevirtual 261, 3) := by decide +kernel
theorem dX6_latest_37 : decode cX6_latest 37 = .ok (.ireturn, 1) := by decide +kernel
theorem dX6_traffic_0 : decode cX6_traffic 0 = .ok (.aload_n 0, 1) := by decide +kernel
theorem dX6_traffic_1 : decode cX6_traffic 1 = .ok (.getfield 110, 3) := by decide +kernel
theorem dX6_traffic_4 : decode cX6_traffic 4 = .ok (.invokevirtual 267, 3) := by decide +kernel
theorem dX6_traffic_7 : decode cX6_traffic 7 = .ok (.ireturn, 1) := by decide +kernel
theorem dX6_lag_0 : decode cX6_lag 0 = .ok (.aload_n 0, 1) := by decide +kernel
theorem dX6_lag_1 : decode cX6_lag 1 = .ok (.iload_n 1, 1) := by decide +kernel
theorem dX6_lag_2 : decode cX6_lag 2 = .ok (.invokevirtual 239, 3) := by decide +kernel
theorem dX6_lag_5 : decode cX6_lag 5 = .ok (.ifCond .eq 23, 3) := by decide +kernel
theorem dX6_lag_8 : decode cX6_lag 8 = .ok (.aload_n 0, 1) := by decide +kernel
theorem dX6_lag_9 : decode cX6_lag 9 = .ok (.getfield 110, 3) := by decide +kernel
theorem dX6_lag_12 : decode cX6_lag 12 = .ok (.invokevirtual 195, 3) := by decide +kernel
theorem dX6_lag_15 : decode cX6_lag 15 = .ok (.aload_n 0, 1) := by decide +kernel
theorem dX6_lag_16 : decode cX6_lag 16 = .ok (.getfield 110, 3) := by decide +kernel
theorem dX6_lag_19 : decode cX6_lag 19 = .ok (.getfield 170, 3) := by decide +kernel
theorem dX6_lag_22 : decode cX6_lag 22 = .ok (.iload_n 1, 1) := by decide +kernel
theorem dX6_lag_23 : decode cX6_lag 23 = .ok (.iaload, 1) := by decide +kernel
theorem dX6_lag_24 : decode cX6_lag 24 = .ok (.isub, 1) := by decide +kernel
theorem dX6_lag_25 : decode cX6_lag 25 = .ok (.goto 4, 3) := by decide +kernel
theorem dX6_lag_28 : decode cX6_lag 28 = .ok (.iconst (-1), 1) := by decide +kernel
theorem dX6_lag_29 : decode cX6_lag 29 = .ok (.ireturn, 1) := by decide +kernel
theorem dX6_peak_0 : decode cX6_peak 0 = .ok (.iload_n 1, 1) := by decide +kernel
theorem dX6_peak_1 : decode cX6_peak 1 = .ok (.ifCond .lt 18, 3) := by decide +kernel
theorem dX6_peak_4 : decode cX6_peak 4 = .ok (.iload_n 1, 1) := by decide +kernel
theorem dX6_peak_5 : decode cX6_peak 5 = .ok (.iconst 1, 1) := by decide +kernel
theorem dX6_peak_6 : decode cX6_peak 6 = .ok (.if_icmp .gt 13, 3) := by decide +kernel
theorem dX6_peak_9 : decode cX6_peak 9 = .ok (.aload_n 0, 1) := by decide +kernel
theorem dX6_peak_10 : decode cX6_peak 10 = .ok (.getfield 110, 3) := by decide +kernel
theorem dX6_peak_13 : decode cX6_peak 13 = .ok (.getfield 157, 3) := by decide +kernel
theorem dX6_peak_16 : decode cX6_peak 16 = .ok (.ifCond .ne 5, 3) := by decide +kernel
theorem dX6_peak_19 : decode cX6_peak 19 = .ok (.iconst (-1), 1) := by decide +kernel
theorem dX6_peak_20 : decode cX6_peak 20 = .ok (.ireturn, 1) := by decide +kernel
theorem dX6_peak_21 : decode cX6_peak 21 = .ok (.iconst (-1), 1) := by decide +kernel
theorem dX6_peak_22 : decode cX6_peak 22 = .ok (.istore_n 2, 1) := by decide +kernel
theorem dX6_peak_23 : decode cX6_peak 23 = .ok (.iconst 0, 1) := by decide +kernel
theorem dX6_peak_24 : decode cX6_peak 24 = .ok (.istore_n 3, 1) := by decide +kernel
theorem dX6_peak_25 : decode cX6_peak 25 = .ok (.aload_n 0, 1) := by decide +kernel
theorem dX6_peak_26 : decode cX6_peak 26 = .ok (.getfield 48, 3) := by decide +kernel
theorem dX6_peak_29 : decode cX6_peak 29 = .ok (.aload_n 0, 1) := by decide +kernel
theorem dX6_peak_30 : decode cX6_peak 30 = .ok (.getfield 110, 3) := by decide +kernel
theorem dX6_peak_33 : decode cX6_peak 33 = .ok (.invokevirtual 228, 3) := by decide +kernel
theorem dX6_peak_36 : decode cX6_peak 36 = .ok (.iconst 0, 1) := by decide +kernel
theorem dX6_peak_37 : decode cX6_peak 37 = .ok (.istore 4, 2) := by decide +kernel
theorem dX6_peak_39 : decode cX6_peak 39 = .ok (.iload 4, 2) := by decide +kernel
theorem dX6_peak_41 : decode cX6_peak 41 = .ok (.bipush 60, 2) := by decide +kernel
theorem dX6_peak_43 : decode cX6_peak 43 = .ok (.if_icmp .gt 43, 3) := by decide +kernel
theorem dX6_peak_46 : decode cX6_peak 46 = .ok (.aload_n 0, 1) := by decide +kernel
theorem dX6_peak_47 : decode cX6_peak 47 = .ok (.getfield 48, 3) := by decide +kernel
theorem dX6_peak_50 : decode cX6_peak 50 = .ok (.invokevirtual 267, 3) := by decide +kernel
theorem dX6_peak_53 : decode cX6_peak 53 = .ok (.iload_n 2, 1) := by decide +kernel
theorem dX6_peak_54 : decode cX6_peak 54 = .ok (.if_icmp .le 14, 3) := by decide +kernel
theorem dX6_peak_57 : decode cX6_peak 57 = .ok (.aload_n 0, 1) := by decide +kernel
theorem dX6_peak_58 : decode cX6_peak 58 = .ok (.getfield 48, 3) := by decide +kernel
theorem dX6_peak_61 : decode cX6_peak 61 = .ok (.invokevirtual 267, 3) := by decide +kernel
theorem dX6_peak_64 : decode cX6_peak 64 = .ok (.istore_n 2, 1) := by decide +kernel
theorem dX6_peak_65 : decode cX6_peak 65 = .ok (.iload 4, 2) := by decide +kernel
theorem dX6_peak_67 : decode cX6_peak 67 = .ok (.istore_n 3, 1) := by decide +kernel
theorem dX6_peak_68 : decode cX6_peak 68 = .ok (.aload_n 0, 1) := by decide +kernel
theorem dX6_peak_69 : decode cX6_peak 69 = .ok (.getfield 37, 3) := by decide +kernel
theorem dX6_peak_72 : decode cX6_peak 72 = .ok (.aload_n 0, 1) := by decide +kernel
theorem dX6_peak_73 : decode cX6_peak 73 = .ok (.getfield 48, 3) := by decide +kernel
theorem dX6_peak_76 : decode cX6_peak 76 = .ok (.invokevirtual 232, 3) := by decide +kernel
theorem dX6_peak_79 : decode cX6_peak 79 = .ok (.pop, 1) := by decide +kernel
theorem dX6_peak_80 : decode cX6_peak 80 = .ok (.iinc 4 1, 3) := by decide +kernel
theorem dX6_peak_83 : decode cX6_peak 83 = .ok (.goto (-44), 3) := by decide +kernel
theorem dX6_peak_86 : decode cX6_peak 86 = .ok (.iload_n 1, 1) := by decide +kernel
theorem dX6_peak_87 : decode cX6_peak 87 = .ok (.ifCond .ne 7, 3) := by decide +kernel
theorem dX6_peak_90 : decode cX6_peak 90 = .ok (.iload_n 2, 1) := by decide +kernel
theorem dX6_peak_91 : decode cX6_peak 91 = .ok (.goto 4, 3) := by decide +kernel
theorem dX6_peak_94 : decode cX6_peak 94 = .ok (.iload_n 3, 1) := by decide +kernel
theorem dX6_peak_95 : decode cX6_peak 95 = .ok (.ireturn, 1) := by decide +kernel
theorem dX6_dirtiest_0 : decode cX6_dirtiest 0 = .ok (.iconst 0, 1) := by decide +kernel
theorem dX6_dirtiest_1 : decode cX6_dirtiest 1 = .ok (.istore_n 2, 1) := by decide +kernel
theorem dX6_dirtiest_2 : decode cX6_dirtiest 2 = .ok (.iconst (-1), 1) := by decide +kernel
theorem dX6_dirtiest_3 : decode cX6_dirtiest 3 = .ok (.istore_n 3, 1) := by decide +kernel
theorem dX6_dirtiest_4 : decode cX6_dirtiest 4 = .ok (.iconst (-1), 1) := by decide +kernel
theorem dX6_dirtiest_5 : decode cX6_dirtiest 5 = .ok (.istore 4, 2) := by decide +kernel
theorem dX6_dirtiest_7 : decode cX6_dirtiest 7 = .ok (.iconst 0, 1) := by decide +kernel
theorem dX6_dirtiest_8 : decode cX6_dirtiest 8 = .ok (.istore 5, 2) := by decide +kernel
theorem dX6_dirtiest_10 : decode cX6_dirtiest 10 = .ok (.iload 5, 2) := by decide +kernel
theorem dX6_dirtiest_12 : decode cX6_dirtiest 12 = .ok (.aload_n 0, 1) := by decide +kernel
theorem dX6_dirtiest_13 : decode cX6_dirtiest 13 = .ok (.getfield 110, 3) := by decide +kernel
theorem dX6_dirtiest_16 : decode cX6_dirtiest 16 = .ok (.getfield 157, 3) := by decide +kernel
theorem dX6_dirtiest_19 : decode cX6_dirtiest 19 = .ok (.if_icmp .ge 75, 3) := by decide +kernel
theorem dX6_dirtiest_22 : decode cX6_dirtiest 22 = .ok (.iconst 0, 1) := by decide +kernel
theorem dX6_dirtiest_23 : decode cX6_dirtiest 23 = .ok (.istore 6, 2) := by decide +kernel
theorem dX6_dirtiest_25 : decode cX6_dirtiest 25 = .ok (.iload 6, 2) := by decide +kernel
theorem dX6_dirtiest_27 : decode cX6_dirtiest 27 = .ok (.aload_n 0, 1) := by decide +kernel
theorem dX6_dirtiest_28 : decode cX6_dirtiest 28 = .ok (.getfield 16, 3) := by decide +kernel
theorem dX6_dirtiest_31 : decode cX6_dirtiest 31 = .ok (.getfield 182, 3) := by decide +kernel
theorem dX6_dirtiest_34 : decode cX6_dirtiest 34 = .ok (.if_icmp .ge 54, 3) := by decide +kernel
theorem dX6_dirtiest_37 : decode cX6_dirtiest 37 = .ok (.aload_n 0, 1) := by decide +kernel
theorem dX6_dirtiest_38 : decode cX6_dirtiest 38 = .ok (.getfield 110, 3) := by decide +kernel
theorem dX6_dirtiest_41 : decode cX6_dirtiest 41 = .ok (.aload_n 0, 1) := by decide +kernel
theorem dX6_dirtiest_42 : decode cX6_dirtiest 42 = .ok (.getfield 110, 3) := by decide +kernel
theorem dX6_dirtiest_45 : decode cX6_dirtiest 45 = .ok (.getfield 160, 3) := by decide +kernel
theorem dX6_dirtiest_48 : decode cX6_dirtiest 48 = .ok (.iload 5, 2) := by decide +kernel
theorem dX6_dirtiest_50 : decode cX6_dirtiest 50 = .ok (.iaload, 1) := by decide +kernel
theorem dX6_dirtiest_51 : decode cX6_dirtiest 51 = .ok (.iload 6, 2) := by decide +kernel
theorem dX6_dirtiest_53 : decode cX6_dirtiest 53 = .ok (.invokevirtual 258, 3) := by decide +kernel
theorem dX6_dirtiest_56 : decode cX6_dirtiest 56 = .ok (.istore 7, 2) := by decide +kernel
theorem dX6_dirtiest_58 : decode cX6_dirtiest 58 = .ok (.iload 7, 2) := by decide +kernel
theorem dX6_dirtiest_60 : decode cX6_dirtiest 60 = .ok (.iload_n 2, 1) := by decide +kernel
theorem dX6_dirtiest_61 : decode cX6_dirtiest 61 = .ok (.if_icmp .le 21, 3) := by decide +kernel
theorem dX6_dirtiest_64 : decode cX6_dirtiest 64 = .ok (.iload 7, 2) := by decide +kernel
theorem dX6_dirtiest_66 : decode cX6_dirtiest 66 = .ok (.istore_n 2, 1) := by decide +kernel
theorem dX6_dirtiest_67 : decode cX6_dirtiest 67 = .ok (.aload_n 0, 1) := by decide +kernel
theorem dX6_dirtiest_68 : decode cX6_dirtiest 68 = .ok (.getfield 110, 3) := by decide +kernel
theorem dX6_dirtiest_71 : decode cX6_dirtiest 71 = .ok (.getfield 160, 3) := by decide +kernel
theorem dX6_dirtiest_74 : decode cX6_dirtiest 74 = .ok (.iload 5, 2) := by decide +kernel
theorem dX6_dirtiest_76 : decode cX6_dirtiest 76 = .ok (.iaload, 1) := by decide +kernel
theorem dX6_dirtiest_77 : decode cX6_dirtiest 77 = .ok (.istore_n 3, 1) := by decide +kernel
theorem dX6_dirtiest_78 : decode cX6_dirtiest 78 = .ok (.iload 6, 2) := by decide +kernel
theorem dX6_dirtiest_80 : decode cX6_dirtiest 80 = .ok (.istore 4, 2) := by decide +kernel
theorem dX6_dirtiest_82 : decode cX6_dirtiest 82 = .ok (.iinc 6 1, 3) := by decide +kernel
theorem dX6_dirtiest_85 : decode cX6_dirtiest 85 = .ok (.goto (-60), 3) := by decide +kernel
theorem dX6_dirtiest_88 : decode cX6_dirtiest 88 = .ok (.iinc 5 1, 3) := by decide +kernel
theorem dX6_dirtiest_91 : decode cX6_dirtiest 91 = .ok (.goto (-81), 3) := by decide +kernel
theorem dX6_dirtiest_94 : decode cX6_dirtiest 94 = .ok (.iload_n 2, 1) := by decide +kernel
theorem dX6_dirtiest_95 : decode cX6_dirtiest 95 = .ok (.ifCond .ne 7, 3) := by decide +kernel
theorem dX6_dirtiest_98 : decode cX6_dirtiest 98 = .ok (.iconst (-1), 1) := by decide +kernel
theorem dX6_dirtiest_99 : decode cX6_dirtiest 99 = .ok (.goto 11, 3) := by decide +kernel
theorem dX6_dirtiest_102 : decode cX6_dirtiest 102 = .ok (.iload_n 1, 1) := by decide +kernel
theorem dX6_dirtiest_103 : decode cX6_dirtiest 103 = .ok (.iload_n 3, 1) := by decide +kernel
theorem dX6_dirtiest_104 : decode cX6_dirtiest 104 = .ok (.iload 4, 2) := by decide +kernel
theorem dX6_dirtiest_106 : decode cX6_dirtiest 106 = .ok (.iload_n 2, 1) := by decide +kernel
theorem dX6_dirtiest_107 : decode cX6_dirtiest 107 = .ok (.invokestatic 301, 3) := by decide +kernel
theorem dX6_dirtiest_110 : decode cX6_dirtiest 110 = .ok (.ireturn, 1) := by decide +kernel
theorem dX6_oneOf_0 : decode cX6_oneOf 0 = .ok (.iload_n 0, 1) := by decide +kernel
theorem dX6_oneOf_1 : decode cX6_oneOf 1 = .ok (.tableswitch 33 0 2 #[27, 29, 31], 27) := by decide +kernel
theorem dX6_oneOf_28 : decode cX6_oneOf 28 = .ok (.iload_n 1, 1) := by decide +kernel
theorem dX6_oneOf_29 : decode cX6_oneOf 29 = .ok (.ireturn, 1) := by decide +kernel
theorem dX6_oneOf_30 : decode cX6_oneOf 30 = .ok (.iload_n 2, 1) := by decide +kernel
theorem dX6_oneOf_31 : decode cX6_oneOf 31 = .ok (.ireturn, 1) := by decide +kernel
theorem dX6_oneOf_32 : decode cX6_oneOf 32 = .ok (.iload_n 3, 1) := by decide +kernel
theorem dX6_oneOf_33 : decode cX6_oneOf 33 = .ok (.ireturn, 1) := by decide +kernel
theorem dX6_oneOf_34 : decode cX6_oneOf 34 = .ok (.iconst (-1), 1) := by decide +kernel
theorem dX6_oneOf_35 : decode cX6_oneOf 35 = .ok (.ireturn, 1) := by decide +kernel
theorem dX6_soonestOf_0 : decode cX6_soonestOf 0 = .ok (.ldc 129, 2) := by decide +kernel
theorem dX6_soonestOf_2 : decode cX6_soonestOf 2 = .ok (.istore_n 2, 1) := by decide +kernel
theorem dX6_soonestOf_3 : decode cX6_soonestOf 3 = .ok (.iconst (-1), 1) := by decide +kernel
theorem dX6_soonestOf_4 : decode cX6_soonestOf 4 = .ok (.istore_n 3, 1) := by decide +kernel
theorem dX6_soonestOf_5 : decode cX6_soonestOf 5 = .ok (.iconst (-1), 1) := by decide +kernel
theorem dX6_soonestOf_6 : decode cX6_soonestOf 6 = .ok (.istore 4, 2) := by decide +kernel
theorem dX6_soonestOf_8 : decode cX6_soonestOf 8 = .ok (.iconst 0, 1) := by decide +kernel
theorem dX6_soonestOf_9 : decode cX6_soonestOf 9 = .ok (.istore 5, 2) := by decide +kernel
theorem dX6_soonestOf_11 : decode cX6_soonestOf 11 = .ok (.iload 5, 2) := by decide +kernel
theorem dX6_soonestOf_13 : decode cX6_soonestOf 13 = .ok (.aload_n 0, 1) := by decide +kernel
theorem dX6_soonestOf_14 : decode cX6_soonestOf 14 = .ok (.getfield 110, 3) := by decide +kernel
theorem dX6_soonestOf_17 : decode cX6_soonestOf 17 = .ok (.getfield 157, 3) := by decide +kernel
theorem dX6_soonestOf_20 : decode cX6_soonestOf 20 = .ok (.iconst 1, 1) := by decide +kernel
theorem dX6_soonestOf_21 : decode cX6_soonestOf 21 = .ok (.isub, 1) := by decide +kernel
theorem dX6_soonestOf_22 : decode cX6_soonestOf 22 = .ok (.if_icmp .ge 72, 3) := by decide +kernel
theorem dX6_soonestOf_25 : decode cX6_soonestOf 25 = .ok (.iconst 0, 1) := by decide +kernel
theorem dX6_soonestOf_26 : decode cX6_soonestOf 26 = .ok (.istore 6, 2) := by decide +kernel
theorem dX6_soonestOf_28 : decode cX6_soonestOf 28 = .ok (.iload 6, 2) := by decide +kernel
theorem dX6_soonestOf_30 : decode cX6_soonestOf 30 = .ok (.iconst 1, 1) := by decide +kernel
theorem dX6_soonestOf_31 : decode cX6_soonestOf 31 = .ok (.if_icmp .gt 57, 3) := by decide +kernel
theorem dX6_soonestOf_34 : decode cX6_soonestOf 34 = .ok (.aload_n 0, 1) := by decide +kernel
theorem dX6_soonestOf_35 : decode cX6_soonestOf 35 = .ok (.getfield 110, 3) := by decide +kernel
theorem dX6_soonestOf_38 : decode cX6_soonestOf 38 = .ok (.iload 5, 2) := by decide +kernel
theorem dX6_soonestOf_40 : decode cX6_soonestOf 40 = .ok (.iload 6, 2) := by decide +kernel
theorem dX6_soonestOf_42 : decode cX6_soonestOf 42 = .ok (.invokevirtual 189, 3) := by decide +kernel
theorem dX6_soonestOf_45 : decode cX6_soonestOf 45 = .ok (.ifCond .le 37, 3) := by decide +kernel
theorem dX6_soonestOf_48 : decode cX6_soonestOf 48 = .ok (.aload_n 0, 1) := by decide +kernel
theorem dX6_soonestOf_49 : decode cX6_soonestOf 49 = .ok (.getfield 110, 3) := by decide +kernel
theorem dX6_soonestOf_52 : decode cX6_soonestOf 52 = .ok (.iload 5, 2) := by decide +kernel
theorem dX6_soonestOf_54 : decode cX6_soonestOf 54 = .ok (.iload 6, 2) := by decide +kernel
theorem dX6_soonestOf_56 : decode cX6_soonestOf 56 = .ok (.invokevirtual 192, 3) := by decide +kernel
theorem dX6_soonestOf_59 : decode cX6_soonestOf 59 = .ok (.iload_n 2, 1) := by decide +kernel
theorem dX6_soonestOf_60 : decode cX6_soonestOf 60 = .ok (.if_icmp .ge 22, 3) := by decide +kernel
theorem dX6_soonestOf_63 : decode cX6_soonestOf 63 = .ok (.aload_n 0, 1) := by decide +kernel
theorem dX6_soonestOf_64 : decode cX6_soonestOf 64 = .ok (.getfield 110, 3) := by decide +kernel
theorem dX6_soonestOf_67 : decode cX6_soonestOf 67 = .ok (.iload 5, 2) := by decide +kernel
theorem dX6_soonestOf_69 : decode cX6_soonestOf 69 = .ok (.iload 6, 2) := by decide +kernel
theorem dX6_soonestOf_71 : decode cX6_soonestOf 71 = .ok (.invokevirtual 192, 3) := by decide +kernel
theorem dX6_soonestOf_74 : decode cX6_soonestOf 74 = .ok (.istore_n 2, 1) := by decide +kernel
theorem dX6_soonestOf_75 : decode cX6_soonestOf 75 = .ok (.iload 5, 2) := by decide +kernel
theorem dX6_soonestOf_77 : decode cX6_soonestOf 77 = .ok (.istore_n 3, 1) := by decide +kernel
theorem dX6_soonestOf_78 : decode cX6_soonestOf 78 = .ok (.iload 6, 2) := by decide +kernel
theorem dX6_soonestOf_80 : decode cX6_soonestOf 80 = .ok (.istore 4, 2) := by decide +kernel
theorem dX6_soonestOf_82 : decode cX6_soonestOf 82 = .ok (.iinc 6 1, 3) := by decide +kernel
theorem dX6_soonestOf_85 : decode cX6_soonestOf 85 = .ok (.goto (-57), 3) := by decide +kernel
theorem dX6_soonestOf_88 : decode cX6_soonestOf 88 = .ok (.iinc 5 1, 3) := by decide +kernel
theorem dX6_soonestOf_91 : decode cX6_soonestOf 91 = .ok (.goto (-80), 3) := by decide +kernel
theorem dX6_soonestOf_94 : decode cX6_soonestOf 94 = .ok (.iload_n 3, 1) := by decide +kernel
theorem dX6_soonestOf_95 : decode cX6_soonestOf 95 = .ok (.iconst (-1), 1) := by decide +kernel
theorem dX6_soonestOf_96 : decode cX6_soonestOf 96 = .ok (.if_icmp .ne 7, 3) := by decide +kernel
theorem dX6_soonestOf_99 : decode cX6_soonestOf 99 = .ok (.iconst (-1), 1) := by decide +kernel
theorem dX6_soonestOf_100 : decode cX6_soonestOf 100 = .ok (.goto 11, 3) := by decide +kernel
theorem dX6_soonestOf_103 : decode cX6_soonestOf 103 = .ok (.iload_n 1, 1) := by decide +kernel
theorem dX6_soonestOf_104 : decode cX6_soonestOf 104 = .ok (.iload_n 3, 1) := by decide +kernel
theorem dX6_soonestOf_105 : decode cX6_soonestOf 105 = .ok (.iload 4, 2) := by decide +kernel
theorem dX6_soonestOf_107 : decode cX6_soonestOf 107 = .ok (.iload_n 2, 1) := by decide +kernel
theorem dX6_soonestOf_108 : decode cX6_soonestOf 108 = .ok (.invokestatic 301, 3) := by decide +kernel
theorem dX6_soonestOf_111 : decode cX6_soonestOf 111 = .ok (.ireturn, 1) := by decide +kernel
theorem dX6_idle_0 : decode cX6_idle 0 = .ok (.iconst 1, 1) := by decide +kernel
theorem dX6_idle_1 : decode cX6_idle 1 = .ok (.aload_n 0, 1) := by decide +kernel
theorem dX6_idle_2 : decode cX6_idle 2 = .ok (.getfield 16, 3) := by decide +kernel
theorem dX6_idle_5 : decode cX6_idle 5 = .ok (.getfield 179, 3) := by decide +kernel
theorem dX6_idle_8 : decode cX6_idle 8 = .ok (.ishl, 1) := by decide +kernel
theorem dX6_idle_9 : decode cX6_idle 9 = .ok (.iconst 1, 1) := by decide +kernel
theorem dX6_idle_10 : decode cX6_idle 10 = .ok (.isub, 1) := by decide +kernel
theorem dX6_idle_11 : decode cX6_idle 11 = .ok (.aload_n 0, 1) := by decide +kernel
theorem dX6_idle_12 : decode cX6_idle 12 = .ok (.getfield 110, 3) := by decide +kernel
theorem dX6_idle_15 : decode cX6_idle 15 = .ok (.invokevirtual 270, 3) := by decide +kernel
theorem dX6_idle_18 : decode cX6_idle 18 = .ok (.iconst (-1), 1) := by decide +kernel
theorem dX6_idle_19 : decode cX6_idle 19 = .ok (.ixor, 1) := by decide +kernel
theorem dX6_idle_20 : decode cX6_idle 20 = .ok (.iand, 1) := by decide +kernel
theorem dX6_idle_21 : decode cX6_idle 21 = .ok (.ireturn, 1) := by decide +kernel
theorem dX6_law_0 : decode cX6_law 0 = .ok (.iload_n 1, 1) := by decide +kernel
theorem dX6_law_1 : decode cX6_law 1 = .ok (.iconst 1, 1) := by decide +kernel
theorem dX6_law_2 : decode cX6_law 2 = .ok (.if_icmp .lt 16, 3) := by decide +kernel
theorem dX6_law_5 : decode cX6_law 5 = .ok (.iload_n 1, 1) := by decide +kernel
theorem dX6_law_6 : decode cX6_law 6 = .ok (.bipush 9, 2) := by decide +kernel
theorem dX6_law_8 : decode cX6_law 8 = .ok (.if_icmp .gt 10, 3) := by decide +kernel
theorem dX6_law_11 : decode cX6_law 11 = .ok (.aload_n 0, 1) := by decide +kernel
theorem dX6_law_12 : decode cX6_law 12 = .ok (.invokevirtual 211, 3) := by decide +kernel
theorem dX6_law_15 : decode cX6_law 15 = .ok (.ifCond .ne 5, 3) := by decide +kernel
theorem dX6_law_18 : decode cX6_law 18 = .ok (.iconst (-1), 1) := by decide +kernel
theorem dX6_law_19 : decode cX6_law 19 = .ok (.ireturn, 1) := by decide +kernel
theorem dX6_law_20 : decode cX6_law 20 = .ok (.aload_n 0, 1) := by decide +kernel
theorem dX6_law_21 : decode cX6_law 21 = .ok (.getfield 37, 3) := by decide +kernel
theorem dX6_law_24 : decode cX6_law 24 = .ok (.iload_n 1, 1) := by decide +kernel
theorem dX6_law_25 : decode cX6_law 25 = .ok (.putfield 305, 3) := by decide +kernel
theorem dX6_law_28 : decode cX6_law 28 = .ok (.aload_n 0, 1) := by decide +kernel
theorem dX6_law_29 : decode cX6_law 29 = .ok (.getfield 48, 3) := by decide +kernel
theorem dX6_law_32 : decode cX6_law 32 = .ok (.aload_n 0, 1) := by decide +kernel
theorem dX6_law_33 : decode cX6_law 33 = .ok (.getfield 110, 3) := by decide +kernel
theorem dX6_law_36 : decode cX6_law 36 = .ok (.invokevirtual 228, 3) := by decide +kernel
theorem dX6_law_39 : decode cX6_law 39 = .ok (.aload_n 0, 1) := by decide +kernel
theorem dX6_law_40 : decode cX6_law 40 = .ok (.getfield 37, 3) := by decide +kernel
theorem dX6_law_43 : decode cX6_law 43 = .ok (.aload_n 0, 1) := by decide +kernel
theorem dX6_law_44 : decode cX6_law 44 = .ok (.getfield 48, 3) := by decide +kernel
theorem dX6_law_47 : decode cX6_law 47 = .ok (.iconst 0, 1) := by decide +kernel
theorem dX6_law_48 : decode cX6_law 48 = .ok (.iconst 0, 1) := by decide +kernel
theorem dX6_law_49 : decode cX6_law 49 = .ok (.invokevirtual 221, 3) := by decide +kernel
theorem dX6_law_52 : decode cX6_law 52 = .ok (.istore_n 2, 1) := by decide +kernel
theorem dX6_law_53 : decode cX6_law 53 = .ok (.aload_n 0, 1) := by decide +kernel
theorem dX6_law_54 : decode cX6_law 54 = .ok (.aload_n 0, 1) := by decide +kernel
theorem dX6_law_55 : decode cX6_law 55 = .ok (.getfield 48, 3) := by decide +kernel
theorem dX6_law_58 : decode cX6_law 58 = .ok (.iload_n 2, 1) := by decide +kernel
theorem dX6_law_59 : decode cX6_law 59 = .ok (.invokevirtual 264, 3) := by decide +kernel
theorem dX6_law_62 : decode cX6_law 62 = .ok (.istore_n 3, 1) := by decide +kernel
theorem dX6_law_63 : decode cX6_law 63 = .ok (.aload_n 0, 1) := by decide +kernel
theorem dX6_law_64 : decode cX6_law 64 = .ok (.getfield 37, 3) := by decide +kernel
theorem dX6_law_67 : decode cX6_law 67 = .ok (.iconst 0, 1) := by decide +kernel
theorem dX6_law_68 : decode cX6_law 68 = .ok (.putfield 305, 3) := by decide +kernel
theorem dX6_law_71 : decode cX6_law 71 = .ok (.iload_n 3, 1) := by decide +kernel
theorem dX6_law_72 : decode cX6_law 72 = .ok (.ireturn, 1) := by decide +kernel
theorem dX6_odds_0 : decode cX6_odds 0 = .ok (.iload_n 1, 1) := by decide +kernel
theorem dX6_odds_1 : decode cX6_odds 1 = .ok (.ifCond .lt 17, 3) := by decide +kernel
theorem dX6_odds_4 : decode cX6_odds 4 = .ok (.iload_n 1, 1) := by decide +kernel
theorem dX6_odds_5 : decode cX6_odds 5 = .ok (.iconst 4, 1) := by decide +kernel
theorem dX6_odds_6 : decode cX6_odds 6 = .ok (.if_icmp .gt 12, 3) := by decide +kernel
theorem dX6_odds_9 : decode cX6_odds 9 = .ok (.iload_n 2, 1) := by decide +kernel
theorem dX6_odds_10 : decode cX6_odds 10 = .ok (.ifCond .lt 8, 3) := by decide +kernel
theorem dX6_odds_13 : decode cX6_odds 13 = .ok (.iload_n 2, 1) := by decide +kernel
theorem dX6_odds_14 : decode cX6_odds 14 = .ok (.iconst 1, 1) := by decide +kernel
theorem dX6_odds_15 : decode cX6_odds 15 = .ok (.if_icmp .le 5, 3) := by decide +kernel
theorem dX6_odds_18 : decode cX6_odds 18 = .ok (.iconst (-1), 1) := by decide +kernel
theorem dX6_odds_19 : decode cX6_odds 19 = .ok (.ireturn, 1) := by decide +kernel
theorem dX6_odds_20 : decode cX6_odds 20 = .ok (.iconst 1, 1) := by decide +kernel
theorem dX6_odds_21 : decode cX6_odds 21 = .ok (.istore_n 3, 1) := by decide +kernel
theorem dX6_odds_22 : decode cX6_odds 22 = .ok (.iconst 1, 1) := by decide +kernel
theorem dX6_odds_23 : decode cX6_odds 23 = .ok (.istore 4, 2) := by decide +kernel
theorem dX6_odds_25 : decode cX6_odds 25 = .ok (.iconst 1, 1) := by decide +kernel
theorem dX6_odds_26 : decode cX6_odds 26 = .ok (.istore 5, 2) := by decide +kernel
theorem dX6_odds_28 : decode cX6_odds 28 = .ok (.iload 5, 2) := by decide +kernel
theorem dX6_odds_30 : decode cX6_odds 30 = .ok (.iload_n 1, 1) := by decide +kernel
theorem dX6_odds_31 : decode cX6_odds 31 = .ok (.if_icmp .gt 38, 3) := by decide +kernel
theorem dX6_odds_34 : decode cX6_odds 34 = .ok (.aload_n 0, 1) := by decide +kernel
theorem dX6_odds_35 : decode cX6_odds 35 = .ok (.iload 5, 2) := by decide +kernel
theorem dX6_odds_37 : decode cX6_odds 37 = .ok (.invokevirtual 308, 3) := by decide +kernel
theorem dX6_odds_40 : decode cX6_odds 40 = .ok (.ifCond .eq 23, 3) := by decide +kernel
theorem dX6_odds_43 : decode cX6_odds 43 = .ok (.iload_n 3, 1) := by decide +kernel
theorem dX6_odds_44 : decode cX6_odds 44 = .ok (.bipush 100, 2) := by decide +kernel
theorem dX6_odds_46 : decode cX6_odds 46 = .ok (.aload_n 0, 1) := by decide +kernel
theorem dX6_odds_47 : decode cX6_odds 47 = .ok (.getfield 16, 3) := by decide +kernel
theorem dX6_odds_50 : decode cX6_odds 50 = .ok (.getfield 311, 3) := by decide +kernel
theorem dX6_odds_53 : decode cX6_odds 53 = .ok (.isub, 1) := by decide +kernel
theorem dX6_odds_54 : decode cX6_odds 54 = .ok (.imul, 1) := by decide +kernel
theorem dX6_odds_55 : decode cX6_odds 55 = .ok (.istore_n 3, 1) := by decide +kernel
theorem dX6_odds_56 : decode cX6_odds 56 = .ok (.iload 4, 2) := by decide +kernel
theorem dX6_odds_58 : decode cX6_odds 58 = .ok (.bipush 100, 2) := by decide +kernel
theorem dX6_odds_60 : decode cX6_odds 60 = .ok (.imul, 1) := by decide +kernel
theorem dX6_odds_61 : decode cX6_odds 61 = .ok (.istore 4, 2) := by decide +kernel
theorem dX6_odds_63 : decode cX6_odds 63 = .ok (.iinc 5 1, 3) := by decide +kernel
theorem dX6_odds_66 : decode cX6_odds 66 = .ok (.goto (-38), 3) := by decide +kernel
theorem dX6_odds_69 : decode cX6_odds 69 = .ok (.iload 4, 2) := by decide +kernel
theorem dX6_odds_71 : decode cX6_odds 71 = .ok (.iload_n 3, 1) := by decide +kernel
theorem dX6_odds_72 : decode cX6_odds 72 = .ok (.invokestatic 314, 3) := by decide +kernel
theorem dX6_odds_75 : decode cX6_odds 75 = .ok (.istore 5, 2) := by decide +kernel
theorem dX6_odds_77 : decode cX6_odds 77 = .ok (.iload 5, 2) := by decide +kernel
theorem dX6_odds_79 : decode cX6_odds 79 = .ok (.ifCond .ne 5, 3) := by decide +kernel
theorem dX6_odds_82 : decode cX6_odds 82 = .ok (.iconst (-1), 1) := by decide +kernel
theorem dX6_odds_83 : decode cX6_odds 83 = .ok (.ireturn, 1) := by decide +kernel
theorem dX6_odds_84 : decode cX6_odds 84 = .ok (.iload_n 2, 1) := by decide +kernel
theorem dX6_odds_85 : decode cX6_odds 85 = .ok (.ifCond .ne 10, 3) := by decide +kernel
theorem dX6_odds_88 : decode cX6_odds 88 = .ok (.iload_n 3, 1) := by decide +kernel
theorem dX6_odds_89 : decode cX6_odds 89 = .ok (.iload 5, 2) := by decide +kernel
theorem dX6_odds_91 : decode cX6_odds 91 = .ok (.idiv, 1) := by decide +kernel
theorem dX6_odds_92 : decode cX6_odds 92 = .ok (.goto 8, 3) := by decide +kernel
theorem dX6_odds_95 : decode cX6_odds 95 = .ok (.iload 4, 2) := by decide +kernel
theorem dX6_odds_97 : decode cX6_odds 97 = .ok (.iload 5, 2) := by decide +kernel
theorem dX6_odds_99 : decode cX6_odds 99 = .ok (.idiv, 1) := by decide +kernel
theorem dX6_odds_100 : decode cX6_odds 100 = .ok (.ireturn, 1) := by decide +kernel
theorem dX6_canLoseBehind_0 : decode cX6_canLoseBehind 0 = .ok (.aload_n 0, 1) := by decide +kernel
theorem dX6_canLoseBehind_1 : decode cX6_canLoseBehind 1 = .ok (.getfield 110, 3) := by decide +kernel
theorem dX6_canLoseBehind_4 : decode cX6_canLoseBehind 4 = .ok (.getfield 176, 3) := by decide +kernel
theorem dX6_canLoseBehind_7 : decode cX6_canLoseBehind 7 = .ok (.iconst (-1), 1) := by decide +kernel
theorem dX6_canLoseBehind_8 : decode cX6_canLoseBehind 8 = .ok (.if_icmp .eq 18, 3) := by decide +kernel
theorem dX6_canLoseBehind_11 : decode cX6_canLoseBehind 11 = .ok (.aload_n 0, 1) := by decide +kernel
theorem dX6_canLoseBehind_12 : decode cX6_canLoseBehind 12 = .ok (.getfield 110, 3) := by decide +kernel
theorem dX6_canLoseBehind_15 : decode cX6_canLoseBehind 15 = .ok (.getfield 249, 3) := by decide +kernel
theorem dX6_canLoseBehind_18 : decode cX6_canLoseBehind 18 = .ok (.iload_n 1, 1) := by decide +kernel
theorem dX6_canLoseBehind_19 : decode cX6_canLoseBehind 19 = .ok (.if_icmp .gt 7, 3) := by decide +kernel
theorem dX6_canLoseBehind_22 : decode cX6_canLoseBehind 22 = .ok (.iconst 1, 1) := by decide +kernel
theorem dX6_canLoseBehind_23 : decode cX6_canLoseBehind 23 = .ok (.goto 4, 3) := by decide +kernel
theorem dX6_canLoseBehind_26 : decode cX6_canLoseBehind 26 = .ok (.iconst 0, 1) := by decide +kernel
theorem dX6_canLoseBehind_27 : decode cX6_canLoseBehind 27 = .ok (.istore_n 2, 1) := by decide +kernel
theorem dX6_canLoseBehind_28 : decode cX6_canLoseBehind 28 = .ok (.aload_n 0, 1) := by decide +kernel
theorem dX6_canLoseBehind_29 : decode cX6_canLoseBehind 29 = .ok (.getfield 110, 3) := by decide +kernel
theorem dX6_canLoseBehind_32 : decode cX6_canLoseBehind 32 = .ok (.getfield 157, 3) := by decide +kernel
theorem dX6_canLoseBehind_35 : decode cX6_canLoseBehind 35 = .ok (.iload_n 2, 1) := by decide +kernel
theorem dX6_canLoseBehind_36 : decode cX6_canLoseBehind 36 = .ok (.ifCond .eq 7, 3) := by decide +kernel
theorem dX6_canLoseBehind_39 : decode cX6_canLoseBehind 39 = .ok (.iconst 1, 1) := by decide +kernel
theorem dX6_canLoseBehind_40 : decode cX6_canLoseBehind 40 = .ok (.goto 4, 3) := by decide +kernel
theorem dX6_canLoseBehind_43 : decode cX6_canLoseBehind 43 = .ok (.iconst 0, 1) := by decide +kernel
theorem dX6_canLoseBehind_44 : decode cX6_canLoseBehind 44 = .ok (.iadd, 1) := by decide +kernel
theorem dX6_canLoseBehind_45 : decode cX6_canLoseBehind 45 = .ok (.iconst 2, 1) := by decide +kernel
theorem dX6_canLoseBehind_46 : decode cX6_canLoseBehind 46 = .ok (.if_icmp .lt 7, 3) := by decide +kernel
theorem dX6_canLoseBehind_49 : decode cX6_canLoseBehind 49 = .ok (.iconst 1, 1) := by decide +kernel
theorem dX6_canLoseBehind_50 : decode cX6_canLoseBehind 50 = .ok (.goto 4, 3) := by decide +kernel
theorem dX6_canLoseBehind_53 : decode cX6_canLoseBehind 53 = .ok (.iconst 0, 1) := by decide +kernel
theorem dX6_canLoseBehind_54 : decode cX6_canLoseBehind 54 = .ok (.ireturn, 1) := by decide +kernel
theorem dX6_commonDivisor_0 : decode cX6_commonDivisor 0 = .ok (.iload_n 0, 1) := by decide +kernel
theorem dX6_commonDivisor_1 : decode cX6_commonDivisor 1 = .ok (.istore_n 2, 1) := by decide +kernel
theorem dX6_commonDivisor_2 : decode cX6_commonDivisor 2 = .ok (.iload_n 1, 1) := by decide +kernel
theorem dX6_commonDivisor_3 : decode cX6_commonDivisor 3 = .ok (.istore_n 3, 1) := by decide +kernel
theorem dX6_commonDivisor_4 : decode cX6_commonDivisor 4 = .ok (.iconst 0, 1) := by decide +kernel
theorem dX6_commonDivisor_5 : decode cX6_commonDivisor 5 = .ok (.istore 4, 2) := by decide +kernel
theorem dX6_commonDivisor_7 : decode cX6_commonDivisor 7 = .ok (.iload 4, 2) := by decide +kernel
theorem dX6_commonDivisor_9 : decode cX6_commonDivisor 9 = .ok (.bipush 64, 2) := by decide +kernel
theorem dX6_commonDivisor_11 : decode cX6_commonDivisor 11 = .ok (.if_icmp .ge 23, 3) := by decide +kernel
theorem dX6_commonDivisor_14 : decode cX6_commonDivisor 14 = .ok (.iload_n 3, 1) := by decide +kernel
theorem dX6_commonDivisor_15 : decode cX6_commonDivisor 15 = .ok (.ifCond .eq 19, 3) := by decide +kernel
theorem dX6_commonDivisor_18 : decode cX6_commonDivisor 18 = .ok (.iload_n 2, 1) := by decide +kernel
theorem dX6_commonDivisor_19 : decode cX6_commonDivisor 19 = .ok (.iload_n 3, 1) := by decide +kernel
theorem dX6_commonDivisor_20 : decode cX6_commonDivisor 20 = .ok (.irem, 1) := by decide +kernel
theorem dX6_commonDivisor_21 : decode cX6_commonDivisor 21 = .ok (.istore 5, 2) := by decide +kernel
theorem dX6_commonDivisor_23 : decode cX6_commonDivisor 23 = .ok (.iload_n 3, 1) := by decide +kernel
theorem dX6_commonDivisor_24 : decode cX6_commonDivisor 24 = .ok (.istore_n 2, 1) := by decide +kernel
theorem dX6_commonDivisor_25 : decode cX6_commonDivisor 25 = .ok (.iload 5, 2) := by decide +kernel
theorem dX6_commonDivisor_27 : decode cX6_commonDivisor 27 = .ok (.istore_n 3, 1) := by decide +kernel
theorem dX6_commonDivisor_28 : decode cX6_commonDivisor 28 = .ok (.iinc 4 1, 3) := by decide +kernel
theorem dX6_commonDivisor_31 : decode cX6_commonDivisor 31 = .ok (.goto (-24), 3) := by decide +kernel
theorem dX6_commonDivisor_34 : decode cX6_commonDivisor 34 = .ok (.iload_n 2, 1) := by decide +kernel
theorem dX6_commonDivisor_35 : decode cX6_commonDivisor 35 = .ok (.ireturn, 1) := by decide +kernel
theorem dX6_lies_0 : decode cX6_lies 0 = .ok (.iload_n 1, 1) := by decide +kernel
theorem dX6_lies_1 : decode cX6_lies 1 = .ok (.ifCond .lt 11, 3) := by decide +kernel
theorem dX6_lies_4 : decode cX6_lies 4 = .ok (.iload_n 1, 1) := by decide +kernel
theorem dX6_lies_5 : decode cX6_lies 5 = .ok (.aload_n 0, 1) := by decide +kernel
theorem dX6_lies_6 : decode cX6_lies 6 = .ok (.getfield 116, 3) := by decide +kernel
theorem dX6_lies_9 : decode cX6_lies 9 = .ok (.if_icmp .lt 8, 3) := by decide +kernel
theorem dX6_lies_12 : decode cX6_lies 12 = .ok (.bipush (-2), 2) := by decide +kernel
theorem dX6_lies_14 : decode cX6_lies 14 = .ok (.goto 9, 3) := by decide +kernel
theorem dX6_lies_17 : decode cX6_lies 17 = .ok (.aload_n 0, 1) := by decide +kernel
theorem dX6_lies_18 : decode cX6_lies 18 = .ok (.getfield 59, 3) := by decide +kernel
theorem dX6_lies_21 : decode cX6_lies 21 = .ok (.iload_n 1, 1) := by decide +kernel
theorem dX6_lies_22 : decode cX6_lies 22 = .ok (.iaload, 1) := by decide +kernel
theorem dX6_lies_23 : decode cX6_lies 23 = .ok (.ireturn, 1) := by decide +kernel
theorem dX6_seen_0 : decode cX6_seen 0 = .ok (.iload_n 1, 1) := by decide +kernel
theorem dX6_seen_1 : decode cX6_seen 1 = .ok (.ifCond .lt 19, 3) := by decide +kernel
theorem dX6_seen_4 : decode cX6_seen 4 = .ok (.iload_n 1, 1) := by decide +kernel
theorem dX6_seen_5 : decode cX6_seen 5 = .ok (.bipush 60, 2) := by decide +kernel
theorem dX6_seen_7 : decode cX6_seen 7 = .ok (.if_icmp .gt 13, 3) := by decide +kernel
theorem dX6_seen_10 : decode cX6_seen 10 = .ok (.aload_n 0, 1) := by decide +kernel
theorem dX6_seen_11 : decode cX6_seen 11 = .ok (.getfield 16, 3) := by decide +kernel
theorem dX6_seen_14 : decode cX6_seen 14 = .ok (.getfield 94, 3) := by decide +kernel
theorem dX6_seen_17 : decode cX6_seen 17 = .ok (.ifCond .ne 5, 3) := by decide +kernel
theorem dX6_seen_20 : decode cX6_seen 20 = .ok (.iconst (-1), 1) := by decide +kernel
theorem dX6_seen_21 : decode cX6_seen 21 = .ok (.ireturn, 1) := by decide +kernel
theorem dX6_seen_22 : decode cX6_seen 22 = .ok (.aload_n 0, 1) := by decide +kernel
theorem dX6_seen_23 : decode cX6_seen 23 = .ok (.getfield 69, 3) := by decide +kernel
theorem dX6_seen_26 : decode cX6_seen 26 = .ok (.iload_n 1, 1) := by decide +kernel
theorem dX6_seen_27 : decode cX6_seen 27 = .ok (.iload_n 2, 1) := by decide +kernel
theorem dX6_seen_28 : decode cX6_seen 28 = .ok (.aload_n 0, 1) := by decide +kernel
theorem dX6_seen_29 : decode cX6_seen 29 = .ok (.getfield 317, 3) := by decide +kernel
theorem dX6_seen_32 : decode cX6_seen 32 = .ok (.invokevirtual 320, 3) := by decide +kernel
theorem dX6_seen_35 : decode cX6_seen 35 = .ok (.ireturn, 1) := by decide +kernel
theorem dX6_untell_0 : decode cX6_untell 0 = .ok (.aload_n 0, 1) := by decide +kernel
theorem dX6_untell_1 : decode cX6_untell 1 = .ok (.getfield 69, 3) := by decide +kernel
theorem dX6_untell_4 : decode cX6_untell 4 = .ok (.iload_n 1, 1) := by decide +kernel
theorem dX6_untell_5 : decode cX6_untell 5 = .ok (.aload_n 0, 1) := by decide +kernel
theorem dX6_untell_6 : decode cX6_untell 6 = .ok (.getfield 317, 3) := by decide +kernel
theorem dX6_untell_9 : decode cX6_untell 9 = .ok (.invokevirtual 324, 3) := by decide +kernel
theorem dX6_untell_12 : decode cX6_untell 12 = .ok (.ireturn, 1) := by decide +kernel
theorem dX6_later_0 : decode cX6_later 0 = .ok (.iload_n 1, 1) := by decide +kernel
theorem dX6_later_1 : decode cX6_later 1 = .ok (.ifCond .lt 22, 3) := by decide +kernel
theorem dX6_later_4 : decode cX6_later 4 = .ok (.iload_n 1, 1) := by decide +kernel
theorem dX6_later_5 : decode cX6_later 5 = .ok (.sipush 1000, 3) := by decide +kernel
theorem dX6_later_8 : decode cX6_later 8 = .ok (.if_icmp .gt 15, 3) := by decide +kernel
theorem dX6_later_11 : decode cX6_later 11 = .ok (.aload_n 0, 1) := by decide +kernel
theorem dX6_later_12 : decode cX6_later 12 = .ok (.getfield 317, 3) := by decide +kernel
theorem dX6_later_15 : decode cX6_later 15 = .ok (.iload_n 1, 1) := by decide +kernel
theorem dX6_later_16 : decode cX6_later 16 = .ok (.iadd, 1) := by decide +kernel
theorem dX6_later_17 : decode cX6_later 17 = .ok (.ldc_w 327, 3) := by decide +kernel
theorem dX6_later_20 : decode cX6_later 20 = .ok (.if_icmp .le 5, 3) := by decide +kernel
theorem dX6_later_23 : decode cX6_later 23 = .ok (.iconst (-1), 1) := by decide +kernel
theorem dX6_later_24 : decode cX6_later 24 = .ok (.ireturn, 1) := by decide +kernel
theorem dX6_later_25 : decode cX6_later 25 = .ok (.aload_n 0, 1) := by decide +kernel
theorem dX6_later_26 : decode cX6_later 26 = .ok (.dup, 1) := by decide +kernel
theorem dX6_later_27 : decode cX6_later 27 = .ok (.getfield 317, 3) := by decide +kernel
theorem dX6_later_30 : decode cX6_later 30 = .ok (.iload_n 1, 1) := by decide +kernel
theorem dX6_later_31 : decode cX6_later 31 = .ok (.iadd, 1) := by decide +kernel
theorem dX6_later_32 : decode cX6_later 32 = .ok (.putfield 317, 3) := by decide +kernel
theorem dX6_later_35 : decode cX6_later 35 = .ok (.aload_n 0, 1) := by decide +kernel
theorem dX6_later_36 : decode cX6_later 36 = .ok (.getfield 317, 3) := by decide +kernel
theorem dX6_later_39 : decode cX6_later 39 = .ok (.ireturn, 1) := by decide +kernel
theorem dX6_fits_0 : decode cX6_fits 0 = .ok (.aload_n 0, 1) := by decide +kernel
theorem dX6_fits_1 : decode cX6_fits 1 = .ok (.ldc 129, 2) := by decide +kernel
theorem dX6_fits_3 : decode cX6_fits 3 = .ok (.iload_n 1, 1) := by decide +kernel
theorem dX6_fits_4 : decode cX6_fits 4 = .ok (.invokevirtual 328, 3) := by decide +kernel
theorem dX6_fits_7 : decode cX6_fits 7 = .ok (.ireturn, 1) := by decide +kernel
theorem dX6_fitsAnsweredBy_0 : decode cX6_fitsAnsweredBy 0 = .ok (.iconst 0, 1) := by decide +kernel
theorem dX6_fitsAnsweredBy_1 : decode cX6_fitsAnsweredBy 1 = .ok (.istore_n 3, 1) := by decide +kernel
theorem dX6_fitsAnsweredBy_2 : decode cX6_fitsAnsweredBy 2 = .ok (.iconst 0, 1) := by decide +kernel
theorem dX6_fitsAnsweredBy_3 : decode cX6_fitsAnsweredBy 3 = .ok (.istore 4, 2) := by decide +kernel
theorem dX6_fitsAnsweredBy_5 : decode cX6_fitsAnsweredBy 5 = .ok (.iload 4, 2) := by decide +kernel
theorem dX6_fitsAnsweredBy_7 : decode cX6_fitsAnsweredBy 7 = .ok (.aload_n 0, 1) := by decide +kernel
theorem dX6_fitsAnsweredBy_8 : decode cX6_fitsAnsweredBy 8 = .ok (.invokevirtual 122, 3) := by decide +kernel
theorem dX6_fitsAnsweredBy_11 : decode cX6_fitsAnsweredBy 11 = .ok (.if_icmp .ge 41, 3) := by decide +kernel
theorem dX6_fitsAnsweredBy_14 : decode cX6_fitsAnsweredBy 14 = .ok (.aload_n 0, 1) := by decide +kernel
theorem dX6_fitsAnsweredBy_15 : decode cX6_fitsAnsweredBy 15 = .ok (.getfield 73, 3) := by decide +kernel
theorem dX6_fitsAnsweredBy_18 : decode cX6_fitsAnsweredBy 18 = .ok (.iload 4, 2) := by decide +kernel
theorem dX6_fitsAnsweredBy_20 : decode cX6_fitsAnsweredBy 20 = .ok (.iaload, 1) := by decide +kernel
theorem dX6_fitsAnsweredBy_21 : decode cX6_fitsAnsweredBy 21 = .ok (.iload_n 1, 1) := by decide +kernel
theorem dX6_fitsAnsweredBy_22 : decode cX6_fitsAnsweredBy 22 = .ok (.if_icmp .gt 24, 3) := by decide +kernel
theorem dX6_fitsAnsweredBy_25 : decode cX6_fitsAnsweredBy 25 = .ok (.aload_n 0, 1) := by decide +kernel
theorem dX6_fitsAnsweredBy_26 : decode cX6_fitsAnsweredBy 26 = .ok (.getfield 69, 3) := by decide +kernel
theorem dX6_fitsAnsweredBy_29 : decode cX6_fitsAnsweredBy 29 = .ok (.aload_n 0, 1) := by decide +kernel
theorem dX6_fitsAnsweredBy_30 : decode cX6_fitsAnsweredBy 30 = .ok (.getfield 73, 3) := by decide +kernel
theorem dX6_fitsAnsweredBy_33 : decode cX6_fitsAnsweredBy 33 = .ok (.iload 4, 2) := by decide +kernel
theorem dX6_fitsAnsweredBy_35 : decode cX6_fitsAnsweredBy 35 = .ok (.iaload, 1) := by decide +kernel
theorem dX6_fitsAnsweredBy_36 : decode cX6_fitsAnsweredBy 36 = .ok (.iload_n 2, 1) := by decide +kernel
theorem dX6_fitsAnsweredBy_37 : decode cX6_fitsAnsweredBy 37 = .ok (.invokevirtual 331, 3) := by decide +kernel
theorem dX6_fitsAnsweredBy_40 : decode cX6_fitsAnsweredBy 40 = .ok (.ifCond .eq 6, 3) := by decide +kernel
theorem dX6_fitsAnsweredBy_43 : decode cX6_fitsAnsweredBy 43 = .ok (.iinc 3 1, 3) := by decide +kernel
theorem dX6_fitsAnsweredBy_46 : decode cX6_fitsAnsweredBy 46 = .ok (.iinc 4 1, 3) := by decide +kernel
theorem dX6_fitsAnsweredBy_49 : decode cX6_fitsAnsweredBy 49 = .ok (.goto (-44), 3) := by decide +kernel
theorem dX6_fitsAnsweredBy_52 : decode cX6_fitsAnsweredBy 52 = .ok (.iload_n 3, 1) := by decide +kernel
theorem dX6_fitsAnsweredBy_53 : decode cX6_fitsAnsweredBy 53 = .ok (.ireturn, 1) := by decide +kernel
theorem dX6_culprit_0 : decode cX6_culprit 0 = .ok (.iload_n 1, 1) := by decide +kernel
theorem dX6_culprit_1 : decode cX6_culprit 1 = .ok (.istore_n 3, 1) := by decide +kernel
theorem dX6_culprit_2 : decode cX6_culprit 2 = .ok (.iconst 0, 1) := by decide +kernel
theorem dX6_culprit_3 : decode cX6_culprit 3 = .ok (.istore 4, 2) := by decide +kernel
theorem dX6_culprit_5 : decode cX6_culprit 5 = .ok (.iload 4, 2) := by decide +kernel
theorem dX6_culprit_7 : decode cX6_culprit 7 = .ok (.aload_n 0, 1) := by decide +kernel
theorem dX6_culprit_8 : decode cX6_culprit 8 = .ok (.invokevirtual 122, 3) := by decide +kernel
theorem dX6_culprit_11 : decode cX6_culprit 11 = .ok (.if_icmp .ge 39, 3) := by decide +kernel
theorem dX6_culprit_14 : decode cX6_culprit 14 = .ok (.aload_n 0, 1) := by decide +kernel
theorem dX6_culprit_15 : decode cX6_culprit 15 = .ok (.getfield 69, 3) := by decide +kernel
theorem dX6_culprit_18 : decode cX6_culprit 18 = .ok (.aload_n 0, 1) := by decide +kernel
theorem dX6_culprit_19 : decode cX6_culprit 19 = .ok (.getfield 73, 3) := by decide +kernel
theorem dX6_culprit_22 : decode cX6_culprit 22 = .ok (.iload 4, 2) := by decide +kernel
theorem dX6_culprit_24 : decode cX6_culprit 24 = .ok (.iaload, 1) := by decide +kernel
theorem dX6_culprit_25 : decode cX6_culprit 25 = .ok (.iload_n 2, 1) := by decide +kernel
theorem dX6_culprit_26 : decode cX6_culprit 26 = .ok (.invokevirtual 331, 3) := by decide +kernel
theorem dX6_culprit_29 : decode cX6_culprit 29 = .ok (.ifCond .eq 15, 3) := by decide +kernel
theorem dX6_culprit_32 : decode cX6_culprit 32 = .ok (.iload_n 3, 1) := by decide +kernel
theorem dX6_culprit_33 : decode cX6_culprit 33 = .ok (.ifCond .ne 8, 3) := by decide +kernel
theorem dX6_culprit_36 : decode cX6_culprit 36 = .ok (.iload 4, 2) := by decide +kernel
theorem dX6_culprit_38 : decode cX6_culprit 38 = .ok (.iconst 1, 1) := by decide +kernel
theorem dX6_culprit_39 : decode cX6_culprit 39 = .ok (.isub, 1) := by decide +kernel
theorem dX6_culprit_40 : decode cX6_culprit 40 = .ok (.ireturn, 1) := by decide +kernel
theorem dX6_culprit_41 : decode cX6_culprit 41 = .ok (.iinc 3 (-1), 3) := by decide +kernel
theorem dX6_culprit_44 : decode cX6_culprit 44 = .ok (.iinc 4 1, 3) := by decide +kernel
theorem dX6_culprit_47 : decode cX6_culprit 47 = .ok (.goto (-42), 3) := by decide +kernel
theorem dX6_culprit_50 : decode cX6_culprit 50 = .ok (.bipush (-2), 2) := by decide +kernel
theorem dX6_culprit_52 : decode cX6_culprit 52 = .ok (.ireturn, 1) := by decide +kernel
theorem dX6_ask_0 : decode cX6_ask 0 = .ok (.aload_n 0, 1) := by decide +kernel
theorem dX6_ask_1 : decode cX6_ask 1 = .ok (.iload_n 2, 1) := by decide +kernel
theorem dX6_ask_2 : decode cX6_ask 2 = .ok (.invokevirtual 334, 3) := by decide +kernel
theorem dX6_ask_5 : decode cX6_ask 5 = .ok (.istore_n 3, 1) := by decide +kernel
theorem dX6_ask_6 : decode cX6_ask 6 = .ok (.iload_n 3, 1) := by decide +kernel
theorem dX6_ask_7 : decode cX6_ask 7 = .ok (.ifCond .eq 12, 3) := by decide +kernel
theorem dX6_ask_10 : decode cX6_ask 10 = .ok (.iload_n 1, 1) := by decide +kernel
theorem dX6_ask_11 : decode cX6_ask 11 = .ok (.ifCond .lt 8, 3) := by decide +kernel
theorem dX6_ask_14 : decode cX6_ask 14 = .ok (.iload_n 1, 1) := by decide +kernel
theorem dX6_ask_15 : decode cX6_ask 15 = .ok (.iconst 1, 1) := by decide +kernel
theorem dX6_ask_16 : decode cX6_ask 16 = .ok (.if_icmp .le 5, 3) := by decide +kernel
theorem dX6_ask_19 : decode cX6_ask 19 = .ok (.iconst (-1), 1) := by decide +kernel
theorem dX6_ask_20 : decode cX6_ask 20 = .ok (.ireturn, 1) := by decide +kernel
theorem dX6_ask_21 : decode cX6_ask 21 = .ok (.iconst (-1), 1) := by decide +kernel
theorem dX6_ask_22 : decode cX6_ask 22 = .ok (.istore 4, 2) := by decide +kernel
theorem dX6_ask_24 : decode cX6_ask 24 = .ok (.ldc 129, 2) := by decide +kernel
theorem dX6_ask_26 : decode cX6_ask 26 = .ok (.istore 5, 2) := by decide +kernel
theorem dX6_ask_28 : decode cX6_ask 28 = .ok (.iconst 0, 1) := by decide +kernel
theorem dX6_ask_29 : decode cX6_ask 29 = .ok (.istore 6, 2) := by decide +kernel
theorem dX6_ask_31 : decode cX6_ask 31 = .ok (.iload 6, 2) := by decide +kernel
theorem dX6_ask_33 : decode cX6_ask 33 = .ok (.bipush 60, 2) := by decide +kernel
theorem dX6_ask_35 : decode cX6_ask 35 = .ok (.if_icmp .gt 44, 3) := by decide +kernel
theorem dX6_ask_38 : decode cX6_ask 38 = .ok (.aload_n 0, 1) := by decide +kernel
theorem dX6_ask_39 : decode cX6_ask 39 = .ok (.iload 6, 2) := by decide +kernel
theorem dX6_ask_41 : decode cX6_ask 41 = .ok (.iload_n 2, 1) := by decide +kernel
theorem dX6_ask_42 : decode cX6_ask 42 = .ok (.invokevirtual 328, 3) := by decide +kernel
theorem dX6_ask_45 : decode cX6_ask 45 = .ok (.istore 7, 2) := by decide +kernel
theorem dX6_ask_47 : decode cX6_ask 47 = .ok (.iload 7, 2) := by decide +kernel
theorem dX6_ask_49 : decode cX6_ask 49 = .ok (.iload_n 3, 1) := by decide +kernel
theorem dX6_ask_50 : decode cX6_ask 50 = .ok (.iload 7, 2) := by decide +kernel
theorem dX6_ask_52 : decode cX6_ask 52 = .ok (.isub, 1) := by decide +kernel
theorem dX6_ask_53 : decode cX6_ask 53 = .ok (.invokestatic 337, 3) := by decide +kernel
theorem dX6_ask_56 : decode cX6_ask 56 = .ok (.istore 8, 2) := by decide +kernel
theorem dX6_ask_58 : decode cX6_ask 58 = .ok (.iload 8, 2) := by decide +kernel
theorem dX6_ask_60 : decode cX6_ask 60 = .ok (.iload 5, 2) := by decide +kernel
theorem dX6_ask_62 : decode cX6_ask 62 = .ok (.if_icmp .ge 11, 3) := by decide +kernel
theorem dX6_ask_65 : decode cX6_ask 65 = .ok (.iload 8, 2) := by decide +kernel
theorem dX6_ask_67 : decode cX6_ask 67 = .ok (.istore 5, 2) := by decide +kernel
theorem dX6_ask_69 : decode cX6_ask 69 = .ok (.iload 6, 2) := by decide +kernel
theorem dX6_ask_71 : decode cX6_ask 71 = .ok (.istore 4, 2) := by decide +kernel
theorem dX6_ask_73 : decode cX6_ask 73 = .ok (.iinc 6 1, 3) := by decide +kernel
theorem dX6_ask_76 : decode cX6_ask 76 = .ok (.goto (-45), 3) := by decide +kernel
theorem dX6_ask_79 : decode cX6_ask 79 = .ok (.iload_n 1, 1) := by decide +kernel
theorem dX6_ask_80 : decode cX6_ask 80 = .ok (.ifCond .ne 8, 3) := by decide +kernel
theorem dX6_ask_83 : decode cX6_ask 83 = .ok (.iload 4, 2) := by decide +kernel
theorem dX6_ask_85 : decode cX6_ask 85 = .ok (.goto 5, 3) := by decide +kernel
theorem dX6_ask_88 : decode cX6_ask 88 = .ok (.iload 5, 2) := by decide +kernel
theorem dX6_ask_90 : decode cX6_ask 90 = .ok (.ireturn, 1) := by decide +kernel
theorem dX6_image_0 : decode cX6_image 0 = .ok (.iload_n 1, 1) := by decide +kernel
theorem dX6_image_1 : decode cX6_image 1 = .ok (.ifCond .lt 8, 3) := by decide +kernel
theorem dX6_image_4 : decode cX6_image 4 = .ok (.iload_n 1, 1) := by decide +kernel
theorem dX6_image_5 : decode cX6_image 5 = .ok (.iconst 3, 1) := by decide +kernel
theorem dX6_image_6 : decode cX6_image 6 = .ok (.if_icmp .lt 5, 3) := by decide +kernel
theorem dX6_image_9 : decode cX6_image 9 = .ok (.iconst (-1), 1) := by decide +kernel
theorem dX6_image_10 : decode cX6_image 10 = .ok (.ireturn, 1) := by decide +kernel
theorem dX6_image_11 : decode cX6_image 11 = .ok (.aload_n 0, 1) := by decide +kernel
theorem dX6_image_12 : decode cX6_image 12 = .ok (.getfield 52, 3) := by decide +kernel
theorem dX6_image_15 : decode cX6_image 15 = .ok (.iload_n 1, 1) := by decide +kernel
theorem dX6_image_16 : decode cX6_image 16 = .ok (.aaload, 1) := by decide +kernel
theorem dX6_image_17 : decode cX6_image 17 = .ok (.astore_n 2, 1) := by decide +kernel
theorem dX6_image_18 : decode cX6_image 18 = .ok (.aload_n 2, 1) := by decide +kernel
theorem dX6_image_19 : decode cX6_image 19 = .ok (.ifnonnull 18, 3) := by decide +kernel
theorem dX6_image_22 : decode cX6_image 22 = .ok (.new 41, 3) := by decide +kernel
theorem dX6_image_25 : decode cX6_image 25 = .ok (.dup, 1) := by decide +kernel
theorem dX6_image_26 : decode cX6_image 26 = .ok (.invokespecial 47, 3) := by decide +kernel
theorem dX6_image_29 : decode cX6_image 29 = .ok (.astore_n 2, 1) := by decide +kernel
theorem dX6_image_30 : decode cX6_image 30 = .ok (.aload_n 0, 1) := by decide +kernel
theorem dX6_image_31 : decode cX6_image 31 = .ok (.getfield 52, 3) := by decide +kernel
theorem dX6_image_34 : decode cX6_image 34 = .ok (.iload_n 1, 1) := by decide +kernel
theorem dX6_image_35 : decode cX6_image 35 = .ok (.aload_n 2, 1) := by decide +kernel
theorem dX6_image_36 : decode cX6_image 36 = .ok (.aastore, 1) := by decide +kernel
theorem dX6_image_37 : decode cX6_image 37 = .ok (.aload_n 2, 1) := by decide +kernel
theorem dX6_image_38 : decode cX6_image 38 = .ok (.aload_n 0, 1) := by decide +kernel
theorem dX6_image_39 : decode cX6_image 39 = .ok (.getfield 110, 3) := by decide +kernel
theorem dX6_image_42 : decode cX6_image 42 = .ok (.invokevirtual 228, 3) := by decide +kernel
theorem dX6_image_45 : decode cX6_image 45 = .ok (.aload_n 0, 1) := by decide +kernel
theorem dX6_image_46 : decode cX6_image 46 = .ok (.getfield 55, 3) := by decide +kernel
theorem dX6_image_49 : decode cX6_image 49 = .ok (.iload_n 1, 1) := by decide +kernel
theorem dX6_image_50 : decode cX6_image 50 = .ok (.iconst 1, 1) := by decide +kernel
theorem dX6_image_51 : decode cX6_image 51 = .ok (.bastore, 1) := by decide +kernel
theorem dX6_image_52 : decode cX6_image 52 = .ok (.aload_n 0, 1) := by decide +kernel
theorem dX6_image_53 : decode cX6_image 53 = .ok (.getfield 110, 3) := by decide +kernel
theorem dX6_image_56 : decode cX6_image 56 = .ok (.getfield 142, 3) := by decide +kernel
theorem dX6_image_59 : decode cX6_image 59 = .ok (.ireturn, 1) := by decide +kernel
theorem dX6_back_0 : decode cX6_back 0 = .ok (.iload_n 1, 1) := by decide +kernel
theorem dX6_back_1 : decode cX6_back 1 = .ok (.ifCond .lt 17, 3) := by decide +kernel
theorem dX6_back_4 : decode cX6_back 4 = .ok (.iload_n 1, 1) := by decide +kernel
theorem dX6_back_5 : decode cX6_back 5 = .ok (.iconst 3, 1) := by decide +kernel
theorem dX6_back_6 : decode cX6_back 6 = .ok (.if_icmp .ge 12, 3) := by decide +kernel
theorem dX6_back_9 : decode cX6_back 9 = .ok (.aload_n 0, 1) := by decide +kernel
theorem dX6_back_10 : decode cX6_back 10 = .ok (.getfield 55, 3) := by decide +kernel
theorem dX6_back_13 : decode cX6_back 13 = .ok (.iload_n 1, 1) := by decide +kernel
theorem dX6_back_14 : decode cX6_back 14 = .ok (.baload, 1) := by decide +kernel
theorem dX6_back_15 : decode cX6_back 15 = .ok (.ifCond .ne 5, 3) := by decide +kernel
theorem dX6_back_18 : decode cX6_back 18 = .ok (.iconst (-1), 1) := by decide +kernel
theorem dX6_back_19 : decode cX6_back 19 = .ok (.ireturn, 1) := by decide +kernel
theorem dX6_back_20 : decode cX6_back 20 = .ok (.aload_n 0, 1) := by decide +kernel
theorem dX6_back_21 : decode cX6_back 21 = .ok (.getfield 52, 3) := by decide +kernel
theorem dX6_back_24 : decode cX6_back 24 = .ok (.iload_n 1, 1) := by decide +kernel
theorem dX6_back_25 : decode cX6_back 25 = .ok (.aaload, 1) := by decide +kernel
theorem dX6_back_26 : decode cX6_back 26 = .ok (.astore_n 2, 1) := by decide +kernel
theorem dX6_back_27 : decode cX6_back 27 = .ok (.aload_n 2, 1) := by decide +kernel
theorem dX6_back_28 : decode cX6_back 28 = .ok (.ifnonnull 5, 3) := by decide +kernel
theorem dX6_back_31 : decode cX6_back 31 = .ok (.iconst (-1), 1) := by decide +kernel
theorem dX6_back_32 : decode cX6_back 32 = .ok (.ireturn, 1) := by decide +kernel
theorem dX6_back_33 : decode cX6_back 33 = .ok (.aload_n 0, 1) := by decide +kernel
theorem dX6_back_34 : decode cX6_back 34 = .ok (.iconst 0, 1) := by decide +kernel
theorem dX6_back_35 : decode cX6_back 35 = .ok (.putfield 100, 3) := by decide +kernel
theorem dX6_back_38 : decode cX6_back 38 = .ok (.aload_n 0, 1) := by decide +kernel
theorem dX6_back_39 : decode cX6_back 39 = .ok (.iconst 0, 1) := by decide +kernel
theorem dX6_back_40 : decode cX6_back 40 = .ok (.putfield 103, 3) := by decide +kernel
theorem dX6_back_43 : decode cX6_back 43 = .ok (.aload_n 0, 1) := by decide +kernel
theorem dX6_back_44 : decode cX6_back 44 = .ok (.aload_n 0, 1) := by decide +kernel
theorem dX6_back_45 : decode cX6_back 45 = .ok (.iconst 0, 1) := by decide +kernel
theorem dX6_back_46 : decode cX6_back 46 = .ok (.invokevirtual 106, 3) := by decide +kernel
theorem dX6_back_49 : decode cX6_back 49 = .ok (.putfield 110, 3) := by decide +kernel
theorem dX6_back_52 : decode cX6_back 52 = .ok (.aload_n 0, 1) := by decide +kernel
theorem dX6_back_53 : decode cX6_back 53 = .ok (.getfield 110, 3) := by decide +kernel
theorem dX6_back_56 : decode cX6_back 56 = .ok (.aload_n 2, 1) := by decide +kernel
theorem dX6_back_57 : decode cX6_back 57 = .ok (.invokevirtual 228, 3) := by decide +kernel
theorem dX6_back_60 : decode cX6_back 60 = .ok (.aload_n 0, 1) := by decide +kernel
theorem dX6_back_61 : decode cX6_back 61 = .ok (.getfield 110, 3) := by decide +kernel
theorem dX6_back_64 : decode cX6_back 64 = .ok (.getfield 142, 3) := by decide +kernel
theorem dX6_back_67 : decode cX6_back 67 = .ok (.ireturn, 1) := by decide +kernel
theorem dX6_about_0 : decode cX6_about 0 = .ok (.iload_n 1, 1) := by decide +kernel
theorem dX6_about_1 : decode cX6_about 1 = .ok (.tableswitch 209 0 16 #[83, 91, 99, 107, 115, 123, 131, 139, 147, 152, 162, 170, 175, 180, 188, 193, 201], 83) := by decide +kernel
theorem dX6_about_84 : decode cX6_about 84 = .ok (.aload_n 0, 1) := by decide +kernel
theorem dX6_about_85 : decode cX6_about 85 = .ok (.getfield 110, 3) := by decide +kernel
theorem dX6_about_88 : decode cX6_about 88 = .ok (.getfield 157, 3) := by decide +kernel
theorem dX6_about_91 : decode cX6_about 91 = .ok (.ireturn, 1) := by decide +kernel
theorem dX6_about_92 : decode cX6_about 92 = .ok (.aload_n 0, 1) := by decide +kernel
theorem dX6_about_93 : decode cX6_about 93 = .ok (.getfield 16, 3) := by decide +kernel
theorem dX6_about_96 : decode cX6_about 96 = .ok (.getfield 179, 3) := by decide +kernel
theorem dX6_about_99 : decode cX6_about 99 = .ok (.ireturn, 1) := by decide +kernel
theorem dX6_about_100 : decode cX6_about 100 = .ok (.aload_n 0, 1) := by decide +kernel
theorem dX6_about_101 : decode cX6_about 101 = .ok (.getfield 16, 3) := by decide +kernel
theorem dX6_about_104 : decode cX6_about 104 = .ok (.getfield 182, 3) := by decide +kernel
theorem dX6_about_107 : decode cX6_about 107 = .ok (.ireturn, 1) := by decide +kernel
theorem dX6_about_108 : decode cX6_about 108 = .ok (.aload_n 0, 1) := by decide +kernel
theorem dX6_about_109 : decode cX6_about 109 = .ok (.getfield 110, 3) := by decide +kernel
theorem dX6_about_112 : decode cX6_about 112 = .ok (.invokevirtual 195, 3) := by decide +kernel
theorem dX6_about_115 : decode cX6_about 115 = .ok (.ireturn, 1) := by decide +kernel
theorem dX6_about_116 : decode cX6_about 116 = .ok (.aload_n 0, 1) := by decide +kernel
theorem dX6_about_117 : decode cX6_about 117 = .ok (.getfield 110, 3) := by decide +kernel
theorem dX6_about_120 : decode cX6_about 120 = .ok (.getfield 342, 3) := by decide +kernel
theorem dX6_about_123 : decode cX6_about 123 = .ok (.ireturn, 1) := by decide +kernel
theorem dX6_about_124 : decode cX6_about 124 = .ok (.aload_n 0, 1) := by decide +kernel
theorem dX6_about_125 : decode cX6_about 125 = .ok (.getfield 110, 3) := by decide +kernel
theorem dX6_about_128 : decode cX6_about 128 = .ok (.getfield 249, 3) := by decide +kernel
theorem dX6_about_131 : decode cX6_about 131 = .ok (.ireturn, 1) := by decide +kernel
theorem dX6_about_132 : decode cX6_about 132 = .ok (.aload_n 0, 1) := by decide +kernel
theorem dX6_about_133 : decode cX6_about 133 = .ok (.getfield 110, 3) := by decide +kernel
theorem dX6_about_136 : decode cX6_about 136 = .ok (.getfield 142, 3) := by decide +kernel
theorem dX6_about_139 : decode cX6_about 139 = .ok (.ireturn, 1) := by decide +kernel
theorem dX6_about_140 : decode cX6_about 140 = .ok (.aload_n 0, 1) := by decide +kernel
theorem dX6_about_141 : decode cX6_about 141 = .ok (.getfield 110, 3) := by decide +kernel
theorem dX6_about_144 : decode cX6_about 144 = .ok (.getfield 345, 3) := by decide +kernel
theorem dX6_about_147 : decode cX6_about 147 = .ok (.ireturn, 1) := by decide +kernel
theorem dX6_about_148 : decode cX6_about 148 = .ok (.aload_n 0, 1) := by decide +kernel
theorem dX6_about_149 : decode cX6_about 149 = .ok (.getfield 100, 3) := by decide +kernel
theorem dX6_about_152 : decode cX6_about 152 = .ok (.ireturn, 1) := by decide +kernel
theorem dX6_about_153 : decode cX6_about 153 = .ok (.aload_n 0, 1) := by decide +kernel
theorem dX6_about_154 : decode cX6_about 154 = .ok (.getfield 103, 3) := by decide +kernel
theorem dX6_about_157 : decode cX6_about 157 = .ok (.aload_n 0, 1) := by decide +kernel
theorem dX6_about_158 : decode cX6_about 158 = .ok (.getfield 100, 3) := by decide +kernel
theorem dX6_about_161 : decode cX6_about 161 = .ok (.isub, 1) := by decide +kernel
theorem dX6_about_162 : decode cX6_about 162 = .ok (.ireturn, 1) := by decide +kernel
theorem dX6_about_163 : decode cX6_about 163 = .ok (.aload_n 0, 1) := by decide +kernel
theorem dX6_about_164 : decode cX6_about 164 = .ok (.getfield 69, 3) := by decide +kernel
theorem dX6_about_167 : decode cX6_about 167 = .ok (.getfield 348, 3) := by decide +kernel
theorem dX6_about_170 : decode cX6_about 170 = .ok (.ireturn, 1) := by decide +kernel
theorem dX6_about_171 : decode cX6_about 171 = .ok (.aload_n 0, 1) := by decide +kernel
theorem dX6_about_172 : decode cX6_about 172 = .ok (.getfield 317, 3) := by decide +kernel
theorem dX6_about_175 : decode cX6_about 175 = .ok (.ireturn, 1) := by decide +kernel
theorem dX6_about_176 : decode cX6_about 176 = .ok (.aload_n 0, 1) := by decide +kernel
theorem dX6_about_177 : decode cX6_about 177 = .ok (.getfield 79, 3) := by decide +kernel
theorem dX6_about_180 : decode cX6_about 180 = .ok (.ireturn, 1) := by decide +kernel
theorem dX6_about_181 : decode cX6_about 181 = .ok (.aload_n 0, 1) := by decide +kernel
theorem dX6_about_182 : decode cX6_about 182 = .ok (.getfield 16, 3) := by decide +kernel
theorem dX6_about_185 : decode cX6_about 185 = .ok (.getfield 351, 3) := by decide +kernel
theorem dX6_about_188 : decode cX6_about 188 = .ok (.ireturn, 1) := by decide +kernel
theorem dX6_about_189 : decode cX6_about 189 = .ok (.aload_n 0, 1) := by decide +kernel
theorem dX6_about_190 : decode cX6_about 190 = .ok (.getfield 116, 3) := by decide +kernel
theorem dX6_about_193 : decode cX6_about 193 = .ok (.ireturn, 1) := by decide +kernel
theorem dX6_about_194 : decode cX6_about 194 = .ok (.aload_n 0, 1) := by decide +kernel
theorem dX6_about_195 : decode cX6_about 195 = .ok (.getfield 16, 3) := by decide +kernel
theorem dX6_about_198 : decode cX6_about 198 = .ok (.getfield 246, 3) := by decide +kernel
theorem dX6_about_201 : decode cX6_about 201 = .ok (.ireturn, 1) := by decide +kernel
theorem dX6_about_202 : decode cX6_about 202 = .ok (.aload_n 0, 1) := by decide +kernel
theorem dX6_about_203 : decode cX6_about 203 = .ok (.getfield 16, 3) := by decide +kernel
theorem dX6_about_206 : decode cX6_about 206 = .ok (.getfield 311, 3) := by decide +kernel
theorem dX6_about_209 : decode cX6_about 209 = .ok (.ireturn, 1) := by decide +kernel
theorem dX6_about_210 : decode cX6_about 210 = .ok (.iconst (-1), 1) := by decide +kernel
theorem dX6_about_211 : decode cX6_about 211 = .ok (.ireturn, 1) := by decide +kernel
theorem dX7_init_0 : decode cX7_init 0 = .ok (.aload_n 0, 1) := by decide +kernel
theorem dX7_init_1 : decode cX7_init 1 = .ok (.invokespecial 1, 3) := by decide +kernel
theorem dX7_init_4 : decode cX7_init 4 = .ok (.aload_n 0, 1) := by decide +kernel
theorem dX7_init_5 : decode cX7_init 5 = .ok (.sipush 1620, 3) := by decide +kernel
theorem dX7_init_8 : decode cX7_init 8 = .ok (.newarray .byte, 2) := by decide +kernel
theorem dX7_init_10 : decode cX7_init 10 = .ok (.putfield 7, 3) := by decide +kernel
theorem dX7_init_13 : decode cX7_init 13 = .ok (.aload_n 0, 1) := by decide +kernel
theorem dX7_init_14 : decode cX7_init 14 = .ok (.sipush 1600, 3) := by decide +kernel
theorem dX7_init_17 : decode cX7_init 17 = .ok (.newarray .byte, 2) := by decide +kernel
theorem dX7_init_19 : decode cX7_init 19 = .ok (.putfield 13, 3) := by decide +kernel
theorem dX7_init_22 : decode cX7_init 22 = .ok (.aload_n 0, 1) := by decide +kernel
theorem dX7_init_23 : decode cX7_init 23 = .ok (.iconst (-1), 1) := by decide +kernel
theorem dX7_init_24 : decode cX7_init 24 = .ok (.putfield 16, 3) := by decide +kernel
theorem dX7_init_27 : decode cX7_init 27 = .ok (.aload_n 0, 1) := by decide +kernel
theorem dX7_init_28 : decode cX7_init 28 = .ok (.iconst 2, 1) := by decide +kernel
theorem dX7_init_29 : decode cX7_init 29 = .ok (.newarray .int, 2) := by decide +kernel
theorem dX7_init_31 : decode cX7_init 31 = .ok (.putfield 20, 3) := by decide +kernel
theorem dX7_init_34 : decode cX7_init 34 = .ok (.aload_n 0, 1) := by decide +kernel
theorem dX7_init_35 : decode cX7_init 35 = .ok (.iconst 2, 1) := by decide +kernel
theorem dX7_init_36 : decode cX7_init 36 = .ok (.newarray .int, 2) := by decide +kernel
theorem dX7_init_38 : decode cX7_init 38 = .ok (.putfield 24, 3) := by decide +kernel
theorem dX7_init_41 : decode cX7_init 41 = .ok (.aload_n 0, 1) := by decide +kernel
theorem dX7_init_42 : decode cX7_init 42 = .ok (.iconst 2, 1) := by decide +kernel
theorem dX7_init_43 : decode cX7_init 43 = .ok (.newarray .int, 2) := by decide +kernel
theorem dX7_init_45 : decode cX7_init 45 = .ok (.putfield 27, 3) := by decide +kernel
theorem dX7_init_48 : decode cX7_init 48 = .ok (.aload_n 0, 1) := by decide +kernel
theorem dX7_init_49 : decode cX7_init 49 = .ok (.iconst 2, 1) := by decide +kernel
theorem dX7_init_50 : decode cX7_init 50 = .ok (.newarray .int, 2) := by decide +kernel
theorem dX7_init_52 : decode cX7_init 52 = .ok (.putfield 30, 3) := by decide +kernel
theorem dX7_init_55 : decode cX7_init 55 = .ok (.aload_n 0, 1) := by decide +kernel
theorem dX7_init_56 : decode cX7_init 56 = .ok (.iconst 2, 1) := by decide +kernel
theorem dX7_init_57 : decode cX7_init 57 = .ok (.newarray .int, 2) := by decide +kernel
theorem dX7_init_59 : decode cX7_init 59 = .ok (.putfield 33, 3) := by decide +kernel
theorem dX7_init_62 : decode cX7_init 62 = .ok (.aload_n 0, 1) := by decide +kernel
theorem dX7_init_63 : decode cX7_init 63 = .ok (.iconst 2, 1) := by decide +kernel
theorem dX7_init_64 : decode cX7_init 64 = .ok (.newarray .int, 2) := by decide +kernel
theorem dX7_init_66 : decode cX7_init 66 = .ok (.putfield 36, 3) := by decide +kernel
theorem dX7_init_69 : decode cX7_init 69 = .ok (.aload_n 0, 1) := by decide +kernel
theorem dX7_init_70 : decode cX7_init 70 = .ok (.iconst 2, 1) := by decide +kernel
theorem dX7_init_71 : decode cX7_init 71 = .ok (.newarray .int, 2) := by decide +kernel
theorem dX7_init_73 : decode cX7_init 73 = .ok (.putfield 39, 3) := by decide +kernel
theorem dX7_init_76 : decode cX7_init 76 = .ok (.aload_n 0, 1) := by decide +kernel
theorem dX7_init_77 : decode cX7_init 77 = .ok (.iconst 2, 1) := by decide +kernel
theorem dX7_init_78 : decode cX7_init 78 = .ok (.newarray .int, 2) := by decide +kernel
theorem dX7_init_80 : decode cX7_init 80 = .ok (.putfield 42, 3) := by decide +kernel
theorem dX7_init_83 : decode cX7_init 83 = .ok (.aload_n 0, 1) := by decide +kernel
theorem dX7_init_84 : decode cX7_init 84 = .ok (.bipush 12, 2) := by decide +kernel
theorem dX7_init_86 : decode cX7_init 86 = .ok (.newarray .int, 2) := by decide +kernel
theorem dX7_init_88 : decode cX7_init 88 = .ok (.putfield 45, 3) := by decide +kernel
theorem dX7_init_91 : decode cX7_init 91 = .ok (.aload_n 0, 1) := by decide +kernel
theorem dX7_init_92 : decode cX7_init 92 = .ok (.iconst 2, 1) := by decide +kernel
theorem dX7_init_93 : decode cX7_init 93 = .ok (.newarray .int, 2) := by decide +kernel
theorem dX7_init_95 : decode cX7_init 95 = .ok (.putfield 48, 3) := by decide +kernel
theorem dX7_init_98 : decode cX7_init 98 = .ok (.aload_n 0, 1) := by decide +kernel
theorem dX7_init_99 : decode cX7_init 99 = .ok (.iconst 2, 1) := by decide +kernel
theorem dX7_init_100 : decode cX7_init 100 = .ok (.newarray .int, 2) := by decide +kernel
theorem dX7_init_102 : decode cX7_init 102 = .ok (.putfield 51, 3) := by decide +kernel
theorem dX7_init_105 : decode cX7_init 105 = .ok (.aload_n 0, 1) := by decide +kernel
theorem dX7_init_106 : decode cX7_init 106 = .ok (.bipush 16, 2) := by decide +kernel
theorem dX7_init_108 : decode cX7_init 108 = .ok (.newarray .long, 2) := by decide +kernel
theorem dX7_init_110 : decode cX7_init 110 = .ok (.putfield 54, 3) := by decide +kernel
theorem dX7_init_113 : decode cX7_init 113 = .ok (.aload_n 0, 1) := by decide +kernel
theorem dX7_init_114 : decode cX7_init 114 = .ok (.bipush 8, 2) := by decide +kernel
theorem dX7_init_116 : decode cX7_init 116 = .ok (.newarray .long, 2) := by decide +kernel
theorem dX7_init_118 : decode cX7_init 118 = .ok (.putfield 58, 3) := by decide +kernel
theorem dX7_init_121 : decode cX7_init 121 = .ok (.aload_n 0, 1) := by decide +kernel
theorem dX7_init_122 : decode cX7_init 122 = .ok (.sipush 1120, 3) := by decide +kernel
theorem dX7_init_125 : decode cX7_init 125 = .ok (.newarray .int, 2) := by decide +kernel
theorem dX7_init_127 : decode cX7_init 127 = .ok (.putfield 61, 3) := by decide +kernel
theorem dX7_init_130 : decode cX7_init 130 = .ok (.aload_n 0, 1) := by decide +kernel
theorem dX7_init_131 : decode cX7_init 131 = .ok (.sipush 1120, 3) := by decide +kernel
theorem dX7_init_134 : decode cX7_init 134 = .ok (.newarray .int, 2) := by decide +kernel
theorem dX7_init_136 : decode cX7_init 136 = .ok (.putfield 64, 3) := by decide +kernel
theorem dX7_init_139 : decode cX7_init 139 = .ok (.aload_n 0, 1) := by decide +kernel
theorem dX7_init_140 : decode cX7_init 140 = .ok (.bipush 90, 2) := by decide +kernel
theorem dX7_init_142 : decode cX7_init 142 = .ok (.newarray .int, 2) := by decide +kernel
theorem dX7_init_144 : decode cX7_init 144 = .ok (.putfield 67, 3) := by decide +kernel
theorem dX7_init_147 : decode cX7_init 147 = .ok (.aload_n 0, 1) := by decide +kernel
theorem dX7_init_148 : decode cX7_init 148 = .ok (.bipush 90, 2) := by decide +kernel
theorem dX7_init_150 : decode cX7_init 150 = .ok (.newarray .int, 2) := by decide +kernel
theorem dX7_init_152 : decode cX7_init 152 = .ok (.putfield 70, 3) := by decide +kernel
theorem dX7_init_155 : decode cX7_init 155 = .ok (.aload_n 0, 1) := by decide +kernel
theorem dX7_init_156 : decode cX7_init 156 = .ok (.bipush 60, 2) := by decide +kernel
theorem dX7_init_158 : decode cX7_init 158 = .ok (.newarray .int, 2) := by decide +kernel
theorem dX7_init_160 : decode cX7_init 160 = .ok (.putfield 73, 3) := by decide +kernel
theorem dX7_init_163 : decode cX7_init 163 = .ok (.aload_n 0, 1) := by decide +kernel
theorem dX7_init_164 : decode cX7_init 164 = .ok (.sipush 520, 3) := by decide +kernel
theorem dX7_init_167 : decode cX7_init 167 = .ok (.newarray .int, 2) := by decide +kernel
theorem dX7_init_169 : decode cX7_init 169 = .ok (.putfield 76, 3) := by decide +kernel
theorem dX7_init_172 : decode cX7_init 172 = .ok (.aload_n 0, 1) := by decide +kernel
theorem dX7_init_173 : decode cX7_init 173 = .ok (.sipush 520, 3) := by decide +kernel
theorem dX7_init_176 : decode cX7_init 176 = .ok (.newarray .int, 2) := by decide +kernel
theorem dX7_init_178 : decode cX7_init 178 = .ok (.putfield 79, 3) := by decide +kernel
theorem dX7_init_181 : decode cX7_init 181 = .ok (.aload_n 0, 1) := by decide +kernel
theorem dX7_init_182 : decode cX7_init 182 = .ok (.sipush 21320, 3) := by decide +kernel
theorem dX7_init_185 : decode cX7_init 185 = .ok (.newarray .int, 2) := by decide +kernel
theorem dX7_init_187 : decode cX7_init 187 = .ok (.putfield 82, 3) := by decide +kernel
theorem dX7_init_190 : decode cX7_init 190 = .ok (.aload_n 0, 1) := by decide +kernel
theorem dX7_init_191 : decode cX7_init 191 = .ok (.bipush 6, 2) := by decide +kernel
theorem dX7_init_193 : decode cX7_init 193 = .ok (.newarray .int, 2) := by decide +kernel
theorem dX7_init_195 : decode cX7_init 195 = .ok (.putfield 85, 3) := by decide +kernel
theorem dX7_init_198 : decode cX7_init 198 = .ok (.aload_n 0, 1) := by decide +kernel
theorem dX7_init_199 : decode cX7_init 199 = .ok (.bipush 6, 2) := by decide +kernel
theorem dX7_init_201 : decode cX7_init 201 = .ok (.newarray .int, 2) := by decide +kernel
theorem dX7_init_203 : decode cX7_init 203 = .ok (.putfield 88, 3) := by decide +kernel
theorem dX7_init_206 : decode cX7_init 206 = .ok (.aload_n 0, 1) := by decide +kernel
theorem dX7_init_207 : decode cX7_init 207 = .ok (.sipush 427, 3) := by decide +kernel
theorem dX7_init_210 : decode cX7_init 210 = .ok (.newarray .int, 2) := by decide +kernel
theorem dX7_init_212 : decode cX7_init 212 = .ok (.putfield 91, 3) := by decide +kernel
theorem dX7_init_215 : decode cX7_init 215 = .ok (.aload_n 0, 1) := by decide +kernel
theorem dX7_init_216 : decode cX7_init 216 = .ok (.bipush 30, 2) := by decide +kernel
theorem dX7_init_218 : decode cX7_init 218 = .ok (.newarray .int, 2) := by decide +kernel
theorem dX7_init_220 : decode cX7_init 220 = .ok (.putfield 94, 3) := by decide +kernel
theorem dX7_init_223 : decode cX7_init 223 = .ok (.aload_n 0, 1) := by decide +kernel
theorem dX7_init_224 : decode cX7_init 224 = .ok (.bipush 30, 2) := by decide +kernel
theorem dX7_init_226 : decode cX7_init 226 = .ok (.newarray .int, 2) := by decide +kernel
theorem dX7_init_228 : decode cX7_init 228 = .ok (.putfield 97, 3) := by decide +kernel
theorem dX7_init_231 : decode cX7_init 231 = .ok (.aload_n 0, 1) := by decide +kernel
theorem dX7_init_232 : decode cX7_init 232 = .ok (.bipush 30, 2) := by decide +kernel
theorem dX7_init_234 : decode cX7_init 234 = .ok (.newarray .int, 2) := by decide +kernel
theorem dX7_init_236 : decode cX7_init 236 = .ok (.putfield 100, 3) := by decide +kernel
theorem dX7_init_239 : decode cX7_init 239 = .ok (.aload_n 0, 1) := by decide +kernel
theorem dX7_init_240 : decode cX7_init 240 = .ok (.bipush 30, 2) := by decide +kernel
theorem dX7_init_242 : decode cX7_init 242 = .ok (.newarray .int, 2) := by decide +kernel
theorem dX7_init_244 : decode cX7_init 244 = .ok (.putfield 103, 3) := by decide +kernel
theorem dX7_init_247 : decode cX7_init 247 = .ok (.aload_n 0, 1) := by decide +kernel
theorem dX7_init_248 : decode cX7_init 248 = .ok (.sipush 1560, 3) := by decide +kernel
theorem dX7_init_251 : decode cX7_init 251 = .ok (.newarray .int, 2) := by decide +kernel
theorem dX7_init_253 : decode cX7_init 253 = .ok (.putfield 106, 3) := by decide +kernel
theorem dX7_init_256 : decode cX7_init 256 = .ok (.aload_n 0, 1) := by decide +kernel
theorem dX7_init_257 : decode cX7_init 257 = .ok (.iconst 3, 1) := by decide +kernel
theorem dX7_init_258 : decode cX7_init 258 = .ok (.newarray .boolean, 2) := by decide +kernel
theorem dX7_init_260 : decode cX7_init 260 = .ok (.putfield 109, 3) := by decide +kernel
theorem dX7_init_263 : decode cX7_init 263 = .ok (.aload_n 0, 1) := by decide +kernel
theorem dX7_init_264 : decode cX7_init 264 = .ok (.invokevirtual 113, 3) := by decide +kernel
theorem dX7_init_267 : decode cX7_init 267 = .ok (.aload_n 0, 1) := by decide +kernel
theorem dX7_init_268 : decode cX7_init 268 = .ok (.invokevirtual 116, 3) := by decide +kernel
theorem dX7_init_271 : decode cX7_init 271 = .ok (.return_, 1) := by decide +kernel
theorem dX7_sign_0 : decode cX7_sign 0 = .ok (.iload_n 1, 1) := by decide +kernel
theorem dX7_sign_1 : decode cX7_sign 1 = .ok (.aload_n 0, 1) := by decide +kernel
theorem dX7_sign_2 : decode cX7_sign 2 = .ok (.getfield 119, 3) := by decide +kernel
theorem dX7_sign_5 : decode cX7_sign 5 = .ok (.if_icmp .ge 16, 3) := by decide +kernel
theorem dX7_sign_8 : decode cX7_sign 8 = .ok (.aload_n 0, 1) := by decide +kernel
theorem dX7_sign_9 : decode cX7_sign 9 = .ok (.getfield 13, 3) := by decide +kernel
theorem dX7_sign_12 : decode cX7_sign 12 = .ok (.iload_n 1, 1) := by decide +kernel
theorem dX7_sign_13 : decode cX7_sign 13 = .ok (.baload, 1) := by decide +kernel
theorem dX7_sign_14 : decode cX7_sign 14 = .ok (.sipush 255, 3) := by decide +kernel
theorem dX7_sign_17 : decode cX7_sign 17 = .ok (.iand, 1) := by decide +kernel
theorem dX7_sign_18 : decode cX7_sign 18 = .ok (.goto 4, 3) := by decide +kernel
theorem dX7_sign_21 : decode cX7_sign 21 = .ok (.iconst 0, 1) := by decide +kernel
theorem dX7_sign_22 : decode cX7_sign 22 = .ok (.ireturn, 1) := by decide +kernel
theorem dX7_isLetter_0 : decode cX7_isLetter 0 = .ok (.iload_n 0, 1) := by decide +kernel
theorem dX7_isLetter_1 : decode cX7_isLetter 1 = .ok (.bipush 97, 2) := by decide +kernel
theorem dX7_isLetter_3 : decode cX7_isLetter 3 = .ok (.if_icmp .lt 13, 3) := by decide +kernel
theorem dX7_isLetter_6 : decode cX7_isLetter 6 = .ok (.iload_n 0, 1) := by decide +kernel
theorem dX7_isLetter_7 : decode cX7_isLetter 7 = .ok (.bipush 122, 2) := by decide +kernel
theorem dX7_isLetter_9 : decode cX7_isLetter 9 = .ok (.if_icmp .gt 7, 3) := by decide +kernel
theorem dX7_isLetter_12 : decode cX7_isLetter 12 = .ok (.iconst 1, 1) := by decide +kernel
theorem dX7_isLetter_13 : decode cX7_isLetter 13 = .ok (.goto 4, 3) := by decide +kernel
theorem dX7_isLetter_16 : decode cX7_isLetter 16 = .ok (.iconst 0, 1) := by decide +kernel
theorem dX7_isLetter_17 : decode cX7_isLetter 17 = .ok (.ireturn, 1) := by decide +kernel
theorem dX7_isDigit_0 : decode cX7_isDigit 0 = .ok (.iload_n 0, 1) := by decide +kernel
theorem dX7_isDigit_1 : decode cX7_isDigit 1 = .ok (.bipush 48, 2) := by decide +kernel
theorem dX7_isDigit_3 : decode cX7_isDigit 3 = .ok (.if_icmp .lt 13, 3) := by decide +kernel
theorem dX7_isDigit_6 : decode cX7_isDigit 6 = .ok (.iload_n 0, 1) := by decide +kernel
theorem dX7_isDigit_7 : decode cX7_isDigit 7 = .ok (.bipush 57, 2) := by decide +kernel
theorem dX7_isDigit_9 : decode cX7_isDigit 9 = .ok (.if_icmp .gt 7, 3) := by decide +kernel
theorem dX7_isDigit_12 : decode cX7_isDigit 12 = .ok (.iconst 1, 1) := by decide +kernel
theorem dX7_isDigit_13 : decode cX7_isDigit 13 = .ok (.goto 4, 3) := by decide +kernel
theorem dX7_isDigit_16 : decode cX7_isDigit 16 = .ok (.iconst 0, 1) := by decide +kernel
theorem dX7_isDigit_17 : decode cX7_isDigit 17 = .ok (.ireturn, 1) := by decide +kernel
theorem dX7_fails_0 : decode cX7_fails 0 = .ok (.aload_n 0, 1) := by decide +kernel
theorem dX7_fails_1 : decode cX7_fails 1 = .ok (.getfield 122, 3) := by decide +kernel
theorem dX7_fails_4 : decode cX7_fails 4 = .ok (.ifCond .le 4, 3) := by decide +kernel
theorem dX7_fails_7 : decode cX7_fails 7 = .ok (.return_, 1) := by decide +kernel
theorem dX7_fails_8 : decode cX7_fails 8 = .ok (.aload_n 0, 1) := by decide +kernel
theorem dX7_fails_9 : decode cX7_fails 9 = .ok (.iload_n 1, 1) := by decide +kernel
theorem dX7_fails_10 : decode cX7_fails 10 = .ok (.putfield 122, 3) := by decide +kernel
theorem dX7_fails_13 : decode cX7_fails 13 = .ok (.aload_n 0, 1) := by decide +kernel
theorem dX7_fails_14 : decode cX7_fails 14 = .ok (.iload_n 2, 1) := by decide +kernel
theorem dX7_fails_15 : decode cX7_fails 15 = .ok (.putfield 16, 3) := by decide +kernel
theorem dX7_fails_18 : decode cX7_fails 18 = .ok (.return_, 1) := by decide +kernel
theorem dX7_isGood_0 : decode cX7_isGood 0 = .ok (.aload_n 0, 1) := by decide +kernel
theorem dX7_isGood_1 : decode cX7_isGood 1 = .ok (.getfield 122, 3) := by decide +kernel
theorem dX7_isGood_4 : decode cX7_isGood 4 = .ok (.ifCond .ne 7, 3) := by decide +kernel
theorem dX7_isGood_7 : decode cX7_isGood 7 = .ok (.iconst 1, 1) := by decide +kernel
theorem dX7_isGood_8 : decode cX7_isGood 8 = .ok (.goto 4, 3) := by decide +kernel
theorem dX7_isGood_11 : decode cX7_isGood 11 = .ok (.iconst 0, 1) := by decide +kernel
theorem dX7_isGood_12 : decode cX7_isGood 12 = .ok (.ireturn, 1) := by decide +kernel
theorem dX7_isKept_0 : decode cX7_isKept 0 = .ok (.lload_n 0, 1) := by decide +kernel
theorem dX7_isKept_1 : decode cX7_isKept 1 = .ok (.ldc2_w 125, 3) := by decide +kernel
theorem dX7_isKept_4 : decode cX7_isKept 4 = .ok (.lcmp, 1) := by decide +kernel
theorem dX7_isKept_5 : decode cX7_isKept 5 = .ok (.ifCond .eq 59, 3) := by decide +kernel
theorem dX7_isKept_8 : decode cX7_isKept 8 = .ok (.lload_n 0, 1) := by decide +kernel
theorem dX7_isKept_9 : decode cX7_isKept 9 = .ok (.ldc2_w 127, 3) := by decide +kernel
theorem dX7_isKept_12 : decode cX7_isKept 12 = .ok (.lcmp, 1) := by decide +kernel
theorem dX7_isKept_13 : decode cX7_isKept 13 = .ok (.ifCond .eq 51, 3) := by decide +kernel
theorem dX7_isKept_16 : decode cX7_isKept 16 = .ok (.lload_n 0, 1) := by decide +kernel
theorem dX7_isKept_17 : decode cX7_isKept 17 = .ok (.ldc2_w 129, 3) := by decide +kernel
theorem dX7_isKept_20 : decode cX7_isKept 20 = .ok (.lcmp, 1) := by decide +kernel
theorem dX7_isKept_21 : decode cX7_isKept 21 = .ok (.ifCond .eq 43, 3) := by decide +kernel
theorem dX7_isKept_24 : decode cX7_isKept 24 = .ok (.lload_n 0, 1) := by decide +kernel
theorem dX7_isKept_25 : decode cX7_isKept 25 = .ok (.ldc2_w 131, 3) := by decide +kernel
theorem dX7_isKept_28 : decode cX7_isKept 28 = .ok (.lcmp, 1) := by decide +kernel
theorem dX7_isKept_29 : decode cX7_isKept 29 = .ok (.ifCond .eq 35, 3) := by decide +kernel
theorem dX7_isKept_32 : decode cX7_isKept 32 = .ok (.lload_n 0, 1) := by decide +kernel
theorem dX7_isKept_33 : decode cX7_isKept 33 = .ok (.ldc2_w 133, 3) := by decide +kernel
theorem dX7_isKept_36 : decode cX7_isKept 36 = .ok (.lcmp, 1) := by decide +kernel
theorem dX7_isKept_37 : decode cX7_isKept 37 = .ok (.ifCond .eq 27, 3) := by decide +kernel
theorem dX7_isKept_40 : decode cX7_isKept 40 = .ok (.lload_n 0, 1) := by decide +kernel
theorem dX7_isKept_41 : decode cX7_isKept 41 = .ok (.ldc2_w 135, 3) := by decide +kernel
theorem dX7_isKept_44 : decode cX7_isKept 44 = .ok (.lcmp, 1) := by decide +kernel
theorem dX7_isKept_45 : decode cX7_isKept 45 = .ok (.ifCond .eq 19, 3) := by decide +kernel
theorem dX7_isKept_48 : decode cX7_isKept 48 = .ok (.lload_n 0, 1) := by decide +kernel
theorem dX7_isKept_49 : decode cX7_isKept 49 = .ok (.ldc2_w 137, 3) := by decide +kernel
theorem dX7_isKept_52 : decode cX7_isKept 52 = .ok (.lcmp, 1) := by decide +kernel
theorem dX7_isKept_53 : decode cX7_isKept 53 = .ok (.ifCond .eq 11, 3) := by decide +kernel
theorem dX7_isKept_56 : decode cX7_isKept 56 = .ok (.lload_n 0, 1) := by decide +kernel
theorem dX7_isKept_57 : decode cX7_isKept 57 = .ok (.ldc2_w 139, 3) := by decide +kernel
theorem dX7_isKept_60 : decode cX7_isKept 60 = .ok (.lcmp, 1) := by decide +kernel
theorem dX7_isKept_61 : decode cX7_isKept 61 = .ok (.ifCond .ne 7, 3) := by decide +kernel
theorem dX7_isKept_64 : decode cX7_isKept 64 = .ok (.iconst 1, 1) := by decide +kernel
theorem dX7_isKept_65 : decode cX7_isKept 65 = .ok (.goto 4, 3) := by decide +kernel
theorem dX7_isKept_68 : decode cX7_isKept 68 = .ok (.iconst 0, 1) := by decide +kernel
theorem dX7_isKept_69 : decode cX7_isKept 69 = .ok (.istore_n 2, 1) := by decide +kernel
theorem dX7_isKept_70 : decode cX7_isKept 70 = .ok (.iload_n 2, 1) := by decide +kernel
theorem dX7_isKept_71 : decode cX7_isKept 71 = .ok (.ifCond .ne 67, 3) := by decide +kernel
theorem dX7_isKept_74 : decode cX7_isKept 74 = .ok (.lload_n 0, 1) := by decide +kernel
theorem dX7_isKept_75 : decode cX7_isKept 75 = .ok (.ldc2_w 141, 3) := by decide +kernel
theorem dX7_isKept_78 : decode cX7_isKept 78 = .ok (.lcmp, 1) := by decide +kernel
theorem dX7_isKept_79 : decode cX7_isKept 79 = .ok (.ifCond .eq 59, 3) := by decide +kernel
theorem dX7_isKept_82 : decode cX7_isKept 82 = .ok (.lload_n 0, 1) := by decide +kernel
theorem dX7_isKept_83 : decode cX7_isKept 83 = .ok (.ldc2_w 143, 3) := by decide +kernel
theorem dX7_isKept_86 : decode cX7_isKept 86 = .ok (.lcmp, 1) := by decide +kernel
theorem dX7_isKept_87 : decode cX7_isKept 87 = .ok (.ifCond .eq 51, 3) := by decide +kernel
theorem dX7_isKept_90 : decode cX7_isKept 90 = .ok (.lload_n 0, 1) := by decide +kernel
theorem dX7_isKept_91 : decode cX7_isKept 91 = .ok (.ldc2_w 145, 3) := by decide +kernel
theorem dX7_isKept_94 : decode cX7_isKept 94 = .ok (.lcmp, 1) := by decide +kernel
theorem dX7_isKept_95 : decode cX7_isKept 95 = .ok (.ifCond .eq 43, 3) := by decide +kernel
theorem dX7_isKept_98 : decode cX7_isKept 98 = .ok (.lload_n 0, 1) := by decide +kernel
theorem dX7_isKept_99 : decode cX7_isKept 99 = .ok (.ldc2_w 147, 3) := by decide +kernel
theorem dX7_isKept_102 : decode cX7_isKept 102 = .ok (.lcmp, 1) := by decide +kernel
theorem dX7_isKept_103 : decode cX7_isKept 103 = .ok (.ifCond .eq 35, 3) := by decide +kernel
theorem dX7_isKept_106 : decode cX7_isKept 106 = .ok (.lload_n 0, 1) := by decide +kernel
theorem dX7_isKept_107 : decode cX7_isKept 107 = .ok (.ldc2_w 149, 3) := by decide +kernel
theorem dX7_isKept_110 : decode cX7_isKept 110 = .ok (.lcmp, 1) := by decide +kernel
theorem dX7_isKept_111 : decode cX7_isKept 111 = .ok (.ifCond .eq 27, 3) := by decide +kernel
theorem dX7_isKept_114 : decode cX7_isKept 114 = .ok (.lload_n 0, 1) := by decide +kernel
theorem dX7_isKept_115 : decode cX7_isKept 115 = .ok (.ldc2_w 151, 3) := by decide +kernel
theorem dX7_isKept_118 : decode cX7_isKept 118 = .ok (.lcmp, 1) := by decide +kernel
theorem dX7_isKept_119 : decode cX7_isKept 119 = .ok (.ifCond .eq 19, 3) := by decide +kernel
theorem dX7_isKept_122 : decode cX7_isKept 122 = .ok (.lload_n 0, 1) := by decide +kernel
theorem dX7_isKept_123 : decode cX7_isKept 123 = .ok (.ldc2_w 153, 3) := by decide +kernel
theorem dX7_isKept_126 : decode cX7_isKept 126 = .ok (.lcmp, 1) := by decide +kernel
theorem dX7_isKept_127 : decode cX7_isKept 127 = .ok (.ifCond .eq 11, 3) := by decide +kernel
theorem dX7_isKept_130 : decode cX7_isKept 130 = .ok (.lload_n 0, 1) := by decide +kernel
theorem dX7_isKept_131 : decode cX7_isKept 131 = .ok (.ldc2_w 155, 3) := by decide +kernel
theorem dX7_isKept_134 : decode cX7_isKept 134 = .ok (.lcmp, 1) := by decide +kernel
theorem dX7_isKept_135 : decode cX7_isKept 135 = .ok (.ifCond .ne 7, 3) := by decide +kernel
theorem dX7_isKept_138 : decode cX7_isKept 138 = .ok (.iconst 1, 1) := by decide +kernel
theorem dX7_isKept_139 : decode cX7_isKept 139 = .ok (.goto 4, 3) := by decide +kernel
theorem dX7_isKept_142 : decode cX7_isKept 142 = .ok (.iconst 0, 1) := by decide +kernel
theorem dX7_isKept_143 : decode cX7_isKept 143 = .ok (.ireturn, 1) := by decide +kernel
theorem dX7_isSign_0 : decode cX7_isSign 0 = .ok (.iload_n 0, 1) := by decide +kernel
theorem dX7_isSign_1 : decode cX7_isSign 1 = .ok (.bipush 59, 2) := by decide +kernel
theorem dX7_isSign_3 : decode cX7_isSign 3 = .ok (.if_icmp .eq 63, 3) := by decide +kernel
theorem dX7_isSign_6 : decode cX7_isSign 6 = .ok (.iload_n 0, 1) := by decide +kernel
theorem dX7_isSign_7 : decode cX7_isSign 7 = .ok (.bipush 40, 2) := by decide +kernel
theorem dX7_isSign_9 : decode cX7_isSign 9 = .ok (.if_icmp .eq 57, 3) := by decide +kernel
theorem dX7_isSign_12 : decode cX7_isSign 12 = .ok (.iload_n 0, 1) := by decide +kernel
theorem dX7_isSign_13 : decode cX7_isSign 13 = .ok (.bipush 41, 2) := by decide +kernel
theorem dX7_isSign_15 : decode cX7_isSign 15 = .ok (.if_icmp .eq 51, 3) := by decide +kernel
theorem dX7_isSign_18 : decode cX7_isSign 18 = .ok (.iload_n 0, 1) := by decide +kernel
theorem dX7_isSign_19 : decode cX7_isSign 19 = .ok (.bipush 60, 2) := by decide +kernel
theorem dX7_isSign_21 : decode cX7_isSign 21 = .ok (.if_icmp .eq 45, 3) := by decide +kernel
theorem dX7_isSign_24 : decode cX7_isSign 24 = .ok (.iload_n 0, 1) := by decide +kernel
theorem dX7_isSign_25 : decode cX7_isSign 25 = .ok (.bipush 62, 2) := by decide +kernel
theorem dX7_isSign_27 : decode cX7_isSign 27 = .ok (.if_icmp .eq 39, 3) := by decide +kernel
theorem dX7_isSign_30 : decode cX7_isSign 30 = .ok (.iload_n 0, 1) := by decide +kernel
theorem dX7_isSign_31 : decode cX7_isSign 31 = .ok (.bipush 61, 2) := by decide +kernel
theorem dX7_isSign_33 : decode cX7_isSign 33 = .ok (.if_icmp .eq 33, 3) := by decide +kernel
theorem dX7_isSign_36 : decode cX7_isSign 36 = .ok (.iload_n 0, 1) := by decide +kernel
theorem dX7_isSign_37 : decode cX7_isSign 37 = .ok (.bipush 43, 2) := by decide +kernel
theorem dX7_isSign_39 : decode cX7_isSign 39 = .ok (.if_icmp .eq 27, 3) := by decide +kernel
theorem dX7_isSign_42 : decode cX7_isSign 42 = .ok (.iload_n 0, 1) := by decide +kernel
theorem dX7_isSign_43 : decode cX7_isSign 43 = .ok (.bipush 45, 2) := by decide +kernel
theorem dX7_isSign_45 : decode cX7_isSign 45 = .ok (.if_icmp .eq 21, 3) := by decide +kernel
theorem dX7_isSign_48 : decode cX7_isSign 48 = .ok (.iload_n 0, 1) := by decide +kernel
theorem dX7_isSign_49 : decode cX7_isSign 49 = .ok (.bipush 42, 2) := by decide +kernel
theorem dX7_isSign_51 : decode cX7_isSign 51 = .ok (.if_icmp .eq 15, 3) := by decide +kernel
theorem dX7_isSign_54 : decode cX7_isSign 54 = .ok (.iload_n 0, 1) := by decide +kernel
theorem dX7_isSign_55 : decode cX7_isSign 55 = .ok (.bipush 47, 2) := by decide +kernel
theorem dX7_isSign_57 : decode cX7_isSign 57 = .ok (.if_icmp .eq 9, 3) := by decide +kernel
theorem dX7_isSign_60 : decode cX7_isSign 60 = .ok (.iload_n 0, 1) := by decide +kernel
theorem dX7_isSign_61 : decode cX7_isSign 61 = .ok (.bipush 37, 2) := by decide +kernel
theorem dX7_isSign_63 : decode cX7_isSign 63 = .ok (.if_icmp .ne 7, 3) := by decide +kernel
theorem dX7_isSign_66 : decode cX7_isSign 66 = .ok (.iconst 1, 1) := by decide +kernel
theorem dX7_isSign_67 : decode cX7_isSign 67 = .ok (.goto 4, 3) := by decide +kernel
theorem dX7_isSign_70 : decode cX7_isSign 70 = .ok (.iconst 0, 1) := by decide +kernel
theorem dX7_isSign_71 : decode cX7_isSign 71 = .ok (.ireturn, 1) := by decide +kernel
theorem dX7_goOn_0 : decode cX7_goOn 0 = .ok (.aload_n 0, 1) := by decide +kernel
theorem dX7_goOn_1 : decode cX7_goOn 1 = .ok (.aload_n 0, 1) := by decide +kernel
theorem dX7_goOn_2 : decode cX7_goOn 2 = .ok (.getfield 157, 3) := by decide +kernel
theorem dX7_goOn_5 : decode cX7_goOn 5 = .ok (.putfield 160, 3) := by decide +kernel
theorem dX7_goOn_8 : decode cX7_goOn 8 = .ok (.aload_n 0, 1) := by decide +kernel
theorem dX7_goOn_9 : decode cX7_goOn 9 = .ok (.getfield 160, 3) := by decide +kernel
theorem dX7_goOn_12 : decode cX7_goOn 12 = .ok (.aload_n 0, 1) := by decide +kernel
theorem dX7_goOn_13 : decode cX7_goOn 13 = .ok (.getfield 119, 3) := by decide +kernel
theorem dX7_goOn_16 : decode cX7_goOn 16 = .ok (.if_icmp .ge 42, 3) := by decide +kernel
theorem dX7_goOn_19 : decode cX7_goOn 19 = .ok (.aload_n 0, 1) := by decide +kernel
theorem dX7_goOn_20 : decode cX7_goOn 20 = .ok (.aload_n 0, 1) := by decide +kernel
theorem dX7_goOn_21 : decode cX7_goOn 21 = .ok (.getfield 160, 3) := by decide +kernel
theorem dX7_goOn_24 : decode cX7_goOn 24 = .ok (.invokevirtual 163, 3) := by decide +kernel
theorem dX7_goOn_27 : decode cX7_goOn 27 = .ok (.bipush 32, 2) := by decide +kernel
theorem dX7_goOn_29 : decode cX7_goOn 29 = .ok (.if_icmp .eq 16, 3) := by decide +kernel
theorem dX7_goOn_32 : decode cX7_goOn 32 = .ok (.aload_n 0, 1) := by decide +kernel
theorem dX7_goOn_33 : decode cX7_goOn 33 = .ok (.aload_n 0, 1) := by decide +kernel
theorem dX7_goOn_34 : decode cX7_goOn 34 = .ok (.getfield 160, 3) := by decide +kernel
theorem dX7_goOn_37 : decode cX7_goOn 37 = .ok (.invokevirtual 163, 3) := by decide +kernel
theorem dX7_goOn_40 : decode cX7_goOn 40 = .ok (.bipush 10, 2) := by decide +kernel
theorem dX7_goOn_42 : decode cX7_goOn 42 = .ok (.if_icmp .ne 16, 3) := by decide +kernel
theorem dX7_goOn_45 : decode cX7_goOn 45 = .ok (.aload_n 0, 1) := by decide +kernel
theorem dX7_goOn_46 : decode cX7_goOn 46 = .ok (.dup, 1) := by decide +kernel
theorem dX7_goOn_47 : decode cX7_goOn 47 = .ok (.getfield 160, 3) := by decide +kernel
theorem dX7_goOn_50 : decode cX7_goOn 50 = .ok (.iconst 1, 1) := by decide +kernel
theorem dX7_goOn_51 : decode cX7_goOn 51 = .ok (.iadd, 1) := by decide +kernel
theorem dX7_goOn_52 : decode cX7_goOn 52 = .ok (.putfield 160, 3) := by decide +kernel
theorem dX7_goOn_55 : decode cX7_goOn 55 = .ok (.goto (-47), 3) := by decide +kernel
theorem dX7_goOn_58 : decode cX7_goOn 58 = .ok (.aload_n 0, 1) := by decide +kernel
theorem dX7_goOn_59 : decode cX7_goOn 59 = .ok (.aload_n 0, 1) := by decide +kernel
theorem dX7_goOn_60 : decode cX7_goOn 60 = .ok (.getfield 160, 3) := by decide +kernel
theorem dX7_goOn_63 : decode cX7_goOn 63 = .ok (.invokevirtual 163, 3) := by decide +kernel
theorem dX7_goOn_66 : decode cX7_goOn 66 = .ok (.istore_n 1, 1) := by decide +kernel
theorem dX7_goOn_67 : decode cX7_goOn 67 = .ok (.aload_n 0, 1) := by decide +kernel
theorem dX7_goOn_68 : decode cX7_goOn 68 = .ok (.aload_n 0, 1) := by decide +kernel
theorem dX7_goOn_69 : decode cX7_goOn 69 = .ok (.getfield 160, 3) := by decide +kernel
theorem dX7_goOn_72 : decode cX7_goOn 72 = .ok (.iconst 1, 1) := by decide +kernel
theorem dX7_goOn_73 : decode cX7_goOn 73 = .ok (.iadd, 1) := by decide +kernel
theorem dX7_goOn_74 : decode cX7_goOn 74 = .ok (.putfield 157, 3) := by decide +kernel
theorem dX7_goOn_77 : decode cX7_goOn 77 = .ok (.aload_n 0, 1) := by decide +kernel
theorem dX7_goOn_78 : decode cX7_goOn 78 = .ok (.getfield 160, 3) := by decide +kernel
theorem dX7_goOn_81 : decode cX7_goOn 81 = .ok (.aload_n 0, 1) := by decide +kernel
theorem dX7_goOn_82 : decode cX7_goOn 82 = .ok (.getfield 119, 3) := by decide +kernel
theorem dX7_goOn_85 : decode cX7_goOn 85 = .ok (.if_icmp .lt 27, 3) := by decide +kernel
theorem dX7_goOn_88 : decode cX7_goOn 88 = .ok (.aload_n 0, 1) := by decide +kernel
theorem dX7_goOn_89 : decode cX7_goOn 89 = .ok (.iconst 0, 1) := by decide +kernel
theorem dX7_goOn_90 : decode cX7_goOn 90 = .ok (.putfield 167, 3) := by decide +kernel
theorem dX7_goOn_93 : decode cX7_goOn 93 = .ok (.aload_n 0, 1) := by decide +kernel
theorem dX7_goOn_94 : decode cX7_goOn 94 = .ok (.aload_n 0, 1) := by decide +kernel
theorem dX7_goOn_95 : decode cX7_goOn 95 = .ok (.getfield 119, 3) := by decide +kernel
theorem dX7_goOn_98 : decode cX7_goOn 98 = .ok (.putfield 160, 3) := by decide +kernel
theorem dX7_goOn_101 : decode cX7_goOn 101 = .ok (.aload_n 0, 1) := by decide +kernel
theorem dX7_goOn_102 : decode cX7_goOn 102 = .ok (.aload_n 0, 1) := by decide +kernel
theorem dX7_goOn_103 : decode cX7_goOn 103 = .ok (.getfield 119, 3) := by decide +kernel
theorem dX7_goOn_106 : decode cX7_goOn 106 = .ok (.putfield 157, 3) := by decide +kernel
theorem dX7_goOn_109 : decode cX7_goOn 109 = .ok (.goto 268, 3) := by decide +kernel
theorem dX7_goOn_112 : decode cX7_goOn 112 = .ok (.iload_n 1, 1) := by decide +kernel
theorem dX7_goOn_113 : decode cX7_goOn 113 = .ok (.invokestatic 170, 3) := by decide +kernel
theorem dX7_goOn_116 : decode cX7_goOn 116 = .ok (.ifCond .eq 123, 3) := by decide +kernel
theorem dX7_goOn_119 : decode cX7_goOn 119 = .ok (.aload_n 0, 1) := by decide +kernel
theorem dX7_goOn_120 : decode cX7_goOn 120 = .ok (.aload_n 0, 1) := by decide +kernel
theorem dX7_goOn_121 : decode cX7_goOn 121 = .ok (.getfield 157, 3) := by decide +kernel
theorem dX7_goOn_124 : decode cX7_goOn 124 = .ok (.invokevirtual 163, 3) := by decide +kernel
theorem dX7_goOn_127 : decode cX7_goOn 127 = .ok (.invokestatic 170, 3) := by decide +kernel
theorem dX7_goOn_130 : decode cX7_goOn 130 = .ok (.ifCond .eq 16, 3) := by decide +kernel
theorem dX7_goOn_133 : decode cX7_goOn 133 = .ok (.aload_n 0, 1) := by decide +kernel
theorem dX7_goOn_134 : decode cX7_goOn 134 = .ok (.dup, 1) := by decide +kernel
theorem dX7_goOn_135 : decode cX7_goOn 135 = .ok (.getfield 157, 3) := by decide +kernel
theorem dX7_goOn_138 : decode cX7_goOn 138 = .ok (.iconst 1, 1) := by decide +kernel
theorem dX7_goOn_139 : decode cX7_goOn 139 = .ok (.iadd, 1) := by decide +kernel
theorem dX7_goOn_140 : decode cX7_goOn 140 = .ok (.putfield 157, 3) := by decide +kernel
theorem dX7_goOn_143 : decode cX7_goOn 143 = .ok (.goto (-24), 3) := by decide +kernel
theorem dX7_goOn_146 : decode cX7_goOn 146 = .ok (.aload_n 0, 1) := by decide +kernel
theorem dX7_goOn_147 : decode cX7_goOn 147 = .ok (.lconst 0, 1) := by decide +kernel
theorem dX7_goOn_148 : decode cX7_goOn 148 = .ok (.putfield 174, 3) := by decide +kernel
theorem dX7_goOn_151 : decode cX7_goOn 151 = .ok (.aload_n 0, 1) := by decide +kernel
theorem dX7_goOn_152 : decode cX7_goOn 152 = .ok (.getfield 160, 3) := by decide +kernel
theorem dX7_goOn_155 : decode cX7_goOn 155 = .ok (.istore_n 2, 1) := by decide +kernel
theorem dX7_goOn_156 : decode cX7_goOn 156 = .ok (.iload_n 2, 1) := by decide +kernel
theorem dX7_goOn_157 : decode cX7_goOn 157 = .ok (.aload_n 0, 1) := by decide +kernel
theorem dX7_goOn_158 : decode cX7_goOn 158 = .ok (.getfield 157, 3) := by decide +kernel
theorem dX7_goOn_161 : decode cX7_goOn 161 = .ok (.if_icmp .ge 38, 3) := by decide +kernel
theorem dX7_goOn_164 : decode cX7_goOn 164 = .ok (.iload_n 2, 1) := by decide +kernel
theorem dX7_goOn_165 : decode cX7_goOn 165 = .ok (.aload_n 0, 1) := by decide +kernel
theorem dX7_goOn_166 : decode cX7_goOn 166 = .ok (.getfield 160, 3) := by decide +kernel
theorem dX7_goOn_169 : decode cX7_goOn 169 = .ok (.bipush 8, 2) := by decide +kernel
theorem dX7_goOn_171 : decode cX7_goOn 171 = .ok (.iadd, 1) := by decide +kernel
theorem dX7_goOn_172 : decode cX7_goOn 172 = .ok (.if_icmp .ge 27, 3) := by decide +kernel
theorem dX7_goOn_175 : decode cX7_goOn 175 = .ok (.aload_n 0, 1) := by decide +kernel
theorem dX7_goOn_176 : decode cX7_goOn 176 = .ok (.aload_n 0, 1) := by decide +kernel
theorem dX7_goOn_177 : decode cX7_goOn 177 = .ok (.getfield 174, 3) := by decide +kernel
theorem dX7_goOn_180 : decode cX7_goOn 180 = .ok (.bipush 8, 2) := by decide +kernel
theorem dX7_goOn_182 : decode cX7_goOn 182 = .ok (.lshl, 1) := by decide +kernel
theorem dX7_goOn_183 : decode cX7_goOn 183 = .ok (.aload_n 0, 1) := by decide +kernel
theorem dX7_goOn_184 : decode cX7_goOn 184 = .ok (.iload_n 2, 1) := by decide +kernel
theorem dX7_goOn_185 : decode cX7_goOn 185 = .ok (.invokevirtual 163, 3) := by decide +kernel
theorem dX7_goOn_188 : decode cX7_goOn 188 = .ok (.i2l, 1) := by decide +kernel
theorem dX7_goOn_189 : decode cX7_goOn 189 = .ok (.lor, 1) := by decide +kernel
theorem dX7_goOn_190 : decode cX7_goOn 190 = .ok (.putfield 174, 3) := by decide +kernel
theorem dX7_goOn_193 : decode cX7_goOn 193 = .ok (.iinc 2 1, 3) := by decide +kernel
theorem dX7_goOn_196 : decode cX7_goOn 196 = .ok (.goto (-40), 3) := by decide +kernel
theorem dX7_goOn_199 : decode cX7_goOn 199 = .ok (.aload_n 0, 1) := by decide +kernel
theorem dX7_goOn_200 : decode cX7_goOn 200 = .ok (.aload_n 0, 1) := by decide +kernel
theorem dX7_goOn_201 : decode cX7_goOn 201 = .ok (.getfield 157, 3) := by decide +kernel
theorem dX7_goOn_204 : decode cX7_goOn 204 = .ok (.aload_n 0, 1) := by decide +kernel
theorem dX7_goOn_205 : decode cX7_goOn 205 = .ok (.getfield 160, 3) := by decide +kernel
theorem dX7_goOn_208 : decode cX7_goOn 208 = .ok (.isub, 1) := by decide +kernel
theorem dX7_goOn_209 : decode cX7_goOn 209 = .ok (.bipush 8, 2) := by decide +kernel
theorem dX7_goOn_211 : decode cX7_goOn 211 = .ok (.if_icmp .le 7, 3) := by decide +kernel
theorem dX7_goOn_214 : decode cX7_goOn 214 = .ok (.iconst 1, 1) := by decide +kernel
theorem dX7_goOn_215 : decode cX7_goOn 215 = .ok (.goto 18, 3) := by decide +kernel
theorem dX7_goOn_218 : decode cX7_goOn 218 = .ok (.aload_n 0, 1) := by decide +kernel
theorem dX7_goOn_219 : decode cX7_goOn 219 = .ok (.getfield 174, 3) := by decide +kernel
theorem dX7_goOn_222 : decode cX7_goOn 222 = .ok (.invokestatic 178, 3) := by decide +kernel
theorem dX7_goOn_225 : decode cX7_goOn 225 = .ok (.ifCond .eq 7, 3) := by decide +kernel
theorem dX7_goOn_228 : decode cX7_goOn 228 = .ok (.iconst 3, 1) := by decide +kernel
theorem dX7_goOn_229 : decode cX7_goOn 229 = .ok (.goto 4, 3) := by decide +kernel
theorem dX7_goOn_232 : decode cX7_goOn 232 = .ok (.iconst 2, 1) := by decide +kernel
theorem dX7_goOn_233 : decode cX7_goOn 233 = .ok (.putfield 167, 3) := by decide +kernel
theorem dX7_goOn_236 : decode cX7_goOn 236 = .ok (.goto 141, 3) := by decide +kernel
theorem dX7_goOn_239 : decode cX7_goOn 239 = .ok (.iload_n 1, 1) := by decide +kernel
theorem dX7_goOn_240 : decode cX7_goOn 240 = .ok (.invokestatic 182, 3) := by decide +kernel
theorem dX7_goOn_243 : decode cX7_goOn 243 = .ok (.ifCond .eq 118, 3) := by decide +kernel
theorem dX7_goOn_246 : decode cX7_goOn 246 = .ok (.aload_n 0, 1) := by decide +kernel
theorem dX7_goOn_247 : decode cX7_goOn 247 = .ok (.iconst 0, 1) := by decide +kernel
theorem dX7_goOn_248 : decode cX7_goOn 248 = .ok (.putfield 185, 3) := by decide +kernel
theorem dX7_goOn_251 : decode cX7_goOn 251 = .ok (.aload_n 0, 1) := by decide +kernel
theorem dX7_goOn_252 : decode cX7_goOn 252 = .ok (.aload_n 0, 1) := by decide +kernel
theorem dX7_goOn_253 : decode cX7_goOn 253 = .ok (.getfield 160, 3) := by decide +kernel
theorem dX7_goOn_256 : decode cX7_goOn 256 = .ok (.putfield 157, 3) := by decide +kernel
theorem dX7_goOn_259 : decode cX7_goOn 259 = .ok (.aload_n 0, 1) := by decide +kernel
theorem dX7_goOn_260 : decode cX7_goOn 260 = .ok (.aload_n 0, 1) := by decide +kernel
theorem dX7_goOn_261 : decode cX7_goOn 261 = .ok (.getfield 157, 3) := by decide +kernel
theorem dX7_goOn_264 : decode cX7_goOn 264 = .ok (.invokevirtual 163, 3) := by decide +kernel
theorem dX7_goOn_267 : decode cX7_goOn 267 = .ok (.invokestatic 182, 3) := by decide +kernel
theorem dX7_goOn_270 : decode cX7_goOn 270 = .ok (.ifCond .eq 52, 3) := by decide +kernel
theorem dX7_goOn_273 : decode cX7_goOn 273 = .ok (.aload_n 0, 1) := by decide +kernel
theorem dX7_goOn_274 : decode cX7_goOn 274 = .ok (.getfield 157, 3) := by decide +kernel
theorem dX7_goOn_277 : decode cX7_goOn 277 = .ok (.aload_n 0, 1) := by decide +kernel
theorem dX7_goOn_278 : decode cX7_goOn 278 = .ok (.getfield 160, 3) := by decide +kernel
theorem dX7_goOn_281 : decode cX7_goOn 281 = .ok (.isub, 1) := by decide +kernel
theorem dX7_goOn_282 : decode cX7_goOn 282 = .ok (.iconst 4, 1) := by decide +kernel
theorem dX7_goOn_283 : decode cX7_goOn 283 = .ok (.if_icmp .ge 26, 3) := by decide +kernel
theorem dX7_goOn_286 : decode cX7_goOn 286 = .ok (.aload_n 0, 1) := by decide +kernel
theorem dX7_goOn_287 : decode cX7_goOn 287 = .ok (.bipush 10, 2) := by decide +kernel
theorem dX7_goOn_289 : decode cX7_goOn 289 = .ok (.aload_n 0, 1) := by decide +kernel
theorem dX7_goOn_290 : decode cX7_goOn 290 = .ok (.getfield 185, 3) := by decide +kernel
theorem dX7_goOn_293 : decode cX7_goOn 293 = .ok (.imul, 1) := by decide +kernel
theorem dX7_goOn_294 : decode cX7_goOn 294 = .ok (.aload_n 0, 1) := by decide +kernel
theorem dX7_goOn_295 : decode cX7_goOn 295 = .ok (.aload_n 0, 1) := by decide +kernel
theorem dX7_goOn_296 : decode cX7_goOn 296 = .ok (.getfield 157, 3) := by decide +kernel
theorem dX7_goOn_299 : decode cX7_goOn 299 = .ok (.invokevirtual 163, 3) := by decide +kernel
theorem dX7_goOn_302 : decode cX7_goOn 302 = .ok (.iadd, 1) := by decide +kernel
theorem dX7_goOn_303 : decode cX7_goOn 303 = .ok (.bipush 48, 2) := by decide +kernel
theorem dX7_goOn_305 : decode cX7_goOn 305 = .ok (.isub, 1) := by decide +kernel
theorem dX7_goOn_306 : decode cX7_goOn 306 = .ok (.putfield 185, 3) := by decide +kernel
theorem dX7_goOn_309 : decode cX7_goOn 309 = .ok (.aload_n 0, 1) := by decide +kernel
theorem dX7_goOn_310 : decode cX7_goOn 310 = .ok (.dup, 1) := by decide +kernel
theorem dX7_goOn_311 : decode cX7_goOn 311 = .ok (.getfield 157, 3) := by decide +kernel
theorem dX7_goOn_314 : decode cX7_goOn 314 = .ok (.iconst 1, 1) := by decide +kernel
theorem dX7_goOn_315 : decode cX7_goOn 315 = .ok (.iadd, 1) := by decide +kernel
theorem dX7_goOn_316 : decode cX7_goOn 316 = .ok (.putfield 157, 3) := by decide +kernel
theorem dX7_goOn_319 : decode cX7_goOn 319 = .ok (.goto (-60), 3) := by decide +kernel
theorem dX7_goOn_322 : decode cX7_goOn 322 = .ok (.aload_n 0, 1) := by decide +kernel
theorem dX7_goOn_323 : decode cX7_goOn 323 = .ok (.aload_n 0, 1) := by decide +kernel
theorem dX7_goOn_324 : decode cX7_goOn 324 = .ok (.getfield 157, 3) := by decide +kernel
theorem dX7_goOn_327 : decode cX7_goOn 327 = .ok (.aload_n 0, 1) := by decide +kernel
theorem dX7_goOn_328 : decode cX7_goOn 328 = .ok (.getfield 160, 3) := by decide +kernel
theorem dX7_goOn_331 : decode cX7_goOn 331 = .ok (.isub, 1) := by decide +kernel
theorem dX7_goOn_332 : decode cX7_goOn 332 = .ok (.iconst 4, 1) := by decide +kernel
theorem dX7_goOn_333 : decode cX7_goOn 333 = .ok (.if_icmp .gt 17, 3) := by decide +kernel
theorem dX7_goOn_336 : decode cX7_goOn 336 = .ok (.aload_n 0, 1) := by decide +kernel
theorem dX7_goOn_337 : decode cX7_goOn 337 = .ok (.aload_n 0, 1) := by decide +kernel
theorem dX7_goOn_338 : decode cX7_goOn 338 = .ok (.getfield 157, 3) := by decide +kernel
theorem dX7_goOn_341 : decode cX7_goOn 341 = .ok (.invokevirtual 163, 3) := by decide +kernel
theorem dX7_goOn_344 : decode cX7_goOn 344 = .ok (.invokestatic 170, 3) := by decide +kernel
theorem dX7_goOn_347 : decode cX7_goOn 347 = .ok (.ifCond .eq 7, 3) := by decide +kernel
theorem dX7_goOn_350 : decode cX7_goOn 350 = .ok (.iconst 1, 1) := by decide +kernel
theorem dX7_goOn_351 : decode cX7_goOn 351 = .ok (.goto 4, 3) := by decide +kernel
theorem dX7_goOn_354 : decode cX7_goOn 354 = .ok (.iconst 4, 1) := by decide +kernel
theorem dX7_goOn_355 : decode cX7_goOn 355 = .ok (.putfield 167, 3) := by decide +kernel
theorem dX7_goOn_358 : decode cX7_goOn 358 = .ok (.goto 19, 3) := by decide +kernel
theorem dX7_goOn_361 : decode cX7_goOn 361 = .ok (.aload_n 0, 1) := by decide +kernel
theorem dX7_goOn_362 : decode cX7_goOn 362 = .ok (.iload_n 1, 1) := by decide +kernel
theorem dX7_goOn_363 : decode cX7_goOn 363 = .ok (.invokestatic 188, 3) := by decide +kernel
theorem dX7_goOn_366 : decode cX7_goOn 366 = .ok (.ifCond .eq 7, 3) := by decide +kernel
theorem dX7_goOn_369 : decode cX7_goOn 369 = .ok (.iconst 5, 1) := by decide +kernel
theorem dX7_goOn_370 : decode cX7_goOn 370 = .ok (.goto 4, 3) := by decide +kernel
theorem dX7_goOn_373 : decode cX7_goOn 373 = .ok (.iconst 1, 1) := by decide +kernel
theorem dX7_goOn_374 : decode cX7_goOn 374 = .ok (.putfield 167, 3) := by decide +kernel
theorem dX7_goOn_377 : decode cX7_goOn 377 = .ok (.return_, 1) := by decide +kernel
theorem dX7_isSignHere_0 : decode cX7_isSignHere 0 = .ok (.aload_n 0, 1) := by decide +kernel
theorem dX7_isSignHere_1 : decode cX7_isSignHere 1 = .ok (.getfield 167, 3) := by decide +kernel
theorem dX7_isSignHere_4 : decode cX7_isSignHere 4 = .ok (.iconst 5, 1) := by decide +kernel
theorem dX7_isSignHere_5 : decode cX7_isSignHere 5 = .ok (.if_icmp .ne 19, 3) := by decide +kernel
theorem dX7_isSignHere_8 : decode cX7_isSignHere 8 = .ok (.aload_n 0, 1) := by decide +kernel
theorem dX7_isSignHere_9 : decode cX7_isSignHere 9 = .ok (.aload_n 0, 1) := by decide +kernel
theorem dX7_isSignHere_10 : decode cX7_isSignHere 10 = .ok (.getfield 160, 3) := by decide +kernel
theorem dX7_isSignHere_13 : decode cX7_isSignHere 13 = .ok (.invokevirtual 163, 3) := by decide +kernel
theorem dX7_isSignHere_16 : decode cX7_isSignHere 16 = .ok (.iload_n 1, 1) := by decide +kernel
theorem dX7_isSignHere_17 : decode cX7_isSignHere 17 = .ok (.if_icmp .ne 7, 3) := by decide +kernel
theorem dX7_isSignHere_20 : decode cX7_isSignHere 20 = .ok (.iconst 1, 1) := by decide +kernel
theorem dX7_isSignHere_21 : decode cX7_isSignHere 21 = .ok (.goto 4, 3) := by decide +kernel
theorem dX7_isSignHere_24 : decode cX7_isSignHere 24 = .ok (.iconst 0, 1) := by decide +kernel
theorem dX7_isSignHere_25 : decode cX7_isSignHere 25 = .ok (.ireturn, 1) := by decide +kernel
theorem dX7_isWord_0 : decode cX7_isWord 0 = .ok (.aload_n 0, 1) := by decide +kernel
theorem dX7_isWord_1 : decode cX7_isWord 1 = .ok (.getfield 167, 3) := by decide +kernel
theorem dX7_isWord_4 : decode cX7_isWord 4 = .ok (.iconst 3, 1) := by decide +kernel
theorem dX7_isWord_5 : decode cX7_isWord 5 = .ok (.if_icmp .ne 16, 3) := by decide +kernel
theorem dX7_isWord_8 : decode cX7_isWord 8 = .ok (.aload_n 0, 1) := by decide +kernel
theorem dX7_isWord_9 : decode cX7_isWord 9 = .ok (.getfield 174, 3) := by decide +kernel
theorem dX7_isWord_12 : decode cX7_isWord 12 = .ok (.lload_n 1, 1) := by decide +kernel
theorem dX7_isWord_13 : decode cX7_isWord 13 = .ok (.lcmp, 1) := by decide +kernel
theorem dX7_isWord_14 : decode cX7_isWord 14 = .ok (.ifCond .ne 7, 3) := by decide +kernel
theorem dX7_isWord_17 : decode cX7_isWord 17 = .ok (.iconst 1, 1) := by decide +kernel
theorem dX7_isWord_18 : decode cX7_isWord 18 = .ok (.goto 4, 3) := by decide +kernel
theorem dX7_isWord_21 : decode cX7_isWord 21 = .ok (.iconst 0, 1) := by decide +kernel
theorem dX7_isWord_22 : decode cX7_isWord 22 = .ok (.ireturn, 1) := by decide +kernel
theorem dX7_misplaced_0 : decode cX7_misplaced 0 = .ok (.aload_n 0, 1) := by decide +kernel
theorem dX7_misplaced_1 : decode cX7_misplaced 1 = .ok (.aload_n 0, 1) := by decide +kernel
theorem dX7_misplaced_2 : decode cX7_misplaced 2 = .ok (.getfield 167, 3) := by decide +kernel
theorem dX7_misplaced_5 : decode cX7_misplaced 5 = .ok (.iconst 1, 1) := by decide +kernel
theorem dX7_misplaced_6 : decode cX7_misplaced 6 = .ok (.if_icmp .ne 7, 3) := by decide +kernel
theorem dX7_misplaced_9 : decode cX7_misplaced 9 = .ok (.iconst 1, 1) := by decide +kernel
theorem dX7_misplaced_10 : decode cX7_misplaced 10 = .ok (.goto 4, 3) := by decide +kernel
theorem dX7_misplaced_13 : decode cX7_misplaced 13 = .ok (.iconst 2, 1) := by decide +kernel
theorem dX7_misplaced_14 : decode cX7_misplaced 14 = .ok (.aload_n 0, 1) := by decide +kernel
theorem dX7_misplaced_15 : decode cX7_misplaced 15 = .ok (.getfield 160, 3) := by decide +kernel
theorem dX7_misplaced_18 : decode cX7_misplaced 18 = .ok (.invokevirtual 191, 3) := by decide +kernel
theorem dX7_misplaced_21 : decode cX7_misplaced 21 = .ok (.return_, 1) := by decide +kernel
theorem dX7_must_0 : decode cX7_must 0 = .ok (.aload_n 0, 1) := by decide +kernel
theorem dX7_must_1 : decode cX7_must 1 = .ok (.invokevirtual 195, 3) := by decide +kernel
theorem dX7_must_4 : decode cX7_must 4 = .ok (.ifCond .ne 4, 3) := by decide +kernel
theorem dX7_must_7 : decode cX7_must 7 = .ok (.return_, 1) := by decide +kernel
theorem dX7_must_8 : decode cX7_must 8 = .ok (.iload_n 1, 1) := by decide +kernel
theorem dX7_must_9 : decode cX7_must 9 = .ok (.ifCond .eq 10, 3) := by decide +kernel
theorem dX7_must_12 : decode cX7_must 12 = .ok (.aload_n 0, 1) := by decide +kernel
theorem dX7_must_13 : decode cX7_must 13 = .ok (.invokevirtual 199, 3) := by decide +kernel
theorem dX7_must_16 : decode cX7_must 16 = .ok (.goto 7, 3) := by decide +kernel
theorem dX7_must_19 : decode cX7_must 19 = .ok (.aload_n 0, 1) := by decide +kernel
theorem dX7_must_20 : decode cX7_must 20 = .ok (.invokevirtual 202, 3) := by decide +kernel
theorem dX7_must_23 : decode cX7_must 23 = .ok (.return_, 1) := by decide +kernel
theorem dX7_numeral_0 : decode cX7_numeral 0 = .ok (.aload_n 0, 1) := by decide +kernel
theorem dX7_numeral_1 : decode cX7_numeral 1 = .ok (.invokevirtual 195, 3) := by decide +kernel
theorem dX7_numeral_4 : decode cX7_numeral 4 = .ok (.ifCond .ne 5, 3) := by decide +kernel
theorem dX7_numeral_7 : decode cX7_numeral 7 = .ok (.iload_n 1, 1) := by decide +kernel
theorem dX7_numeral_8 : decode cX7_numeral 8 = .ok (.ireturn, 1) := by decide +kernel
theorem dX7_numeral_9 : decode cX7_numeral 9 = .ok (.aload_n 0, 1) := by decide +kernel
theorem dX7_numeral_10 : decode cX7_numeral 10 = .ok (.getfield 167, 3) := by decide +kernel
theorem dX7_numeral_13 : decode cX7_numeral 13 = .ok (.iconst 4, 1) := by decide +kernel
theorem dX7_numeral_14 : decode cX7_numeral 14 = .ok (.if_icmp .eq 7, 3) := by decide +kernel
theorem dX7_numeral_17 : decode cX7_numeral 17 = .ok (.aload_n 0, 1) := by decide +kernel
theorem dX7_numeral_18 : decode cX7_numeral 18 = .ok (.invokevirtual 202, 3) := by decide +kernel
theorem dX7_numeral_21 : decode cX7_numeral 21 = .ok (.aload_n 0, 1) := by decide +kernel
theorem dX7_numeral_22 : decode cX7_numeral 22 = .ok (.invokevirtual 195, 3) := by decide +kernel
theorem dX7_numeral_25 : decode cX7_numeral 25 = .ok (.ifCond .eq 28, 3) := by decide +kernel
theorem dX7_numeral_28 : decode cX7_numeral 28 = .ok (.aload_n 0, 1) := by decide +kernel
theorem dX7_numeral_29 : decode cX7_numeral 29 = .ok (.getfield 185, 3) := by decide +kernel
theorem dX7_numeral_32 : decode cX7_numeral 32 = .ok (.iload_n 1, 1) := by decide +kernel
theorem dX7_numeral_33 : decode cX7_numeral 33 = .ok (.if_icmp .lt 11, 3) := by decide +kernel
theorem dX7_numeral_36 : decode cX7_numeral 36 = .ok (.aload_n 0, 1) := by decide +kernel
theorem dX7_numeral_37 : decode cX7_numeral 37 = .ok (.getfield 185, 3) := by decide +kernel
theorem dX7_numeral_40 : decode cX7_numeral 40 = .ok (.iload_n 2, 1) := by decide +kernel
theorem dX7_numeral_41 : decode cX7_numeral 41 = .ok (.if_icmp .le 12, 3) := by decide +kernel
theorem dX7_numeral_44 : decode cX7_numeral 44 = .ok (.aload_n 0, 1) := by decide +kernel
theorem dX7_numeral_45 : decode cX7_numeral 45 = .ok (.iconst 4, 1) := by decide +kernel
theorem dX7_numeral_46 : decode cX7_numeral 46 = .ok (.aload_n 0, 1) := by decide +kernel
theorem dX7_numeral_47 : decode cX7_numeral 47 = .ok (.getfield 160, 3) := by decide +kernel
theorem dX7_numeral_50 : decode cX7_numeral 50 = .ok (.invokevirtual 191, 3) := by decide +kernel
theorem dX7_numeral_53 : decode cX7_numeral 53 = .ok (.aload_n 0, 1) := by decide +kernel
theorem dX7_numeral_54 : decode cX7_numeral 54 = .ok (.getfield 185, 3) := by decide +kernel
theorem dX7_numeral_57 : decode cX7_numeral 57 = .ok (.istore_n 3, 1) := by decide +kernel
theorem dX7_numeral_58 : decode cX7_numeral 58 = .ok (.aload_n 0, 1) := by decide +kernel
theorem dX7_numeral_59 : decode cX7_numeral 59 = .ok (.invokevirtual 195, 3) := by decide +kernel
theorem dX7_numeral_62 : decode cX7_numeral 62 = .ok (.ifCond .eq 7, 3) := by decide +kernel
theorem dX7_numeral_65 : decode cX7_numeral 65 = .ok (.aload_n 0, 1) := by decide +kernel
theorem dX7_numeral_66 : decode cX7_numeral 66 = .ok (.invokevirtual 199, 3) := by decide +kernel
theorem dX7_numeral_69 : decode cX7_numeral 69 = .ok (.aload_n 0, 1) := by decide +kernel
theorem dX7_numeral_70 : decode cX7_numeral 70 = .ok (.invokevirtual 195, 3) := by decide +kernel
theorem dX7_numeral_73 : decode cX7_numeral 73 = .ok (.ifCond .eq 7, 3) := by decide +kernel
theorem dX7_numeral_76 : decode cX7_numeral 76 = .ok (.iload_n 3, 1) := by decide +kernel
theorem dX7_numeral_77 : decode cX7_numeral 77 = .ok (.goto 4, 3) := by decide +kernel
theorem dX7_numeral_80 : decode cX7_numeral 80 = .ok (.iload_n 1, 1) := by decide +kernel
theorem dX7_numeral_81 : decode cX7_numeral 81 = .ok (.ireturn, 1) := by decide +kernel
theorem dX7_clearBank_0 : decode cX7_clearBank 0 = .ok (.aload_n 0, 1) := by decide +kernel
theorem dX7_clearBank_1 : decode cX7_clearBank 1 = .ok (.getfield 20, 3) := by decide +kernel
theorem dX7_clearBank_4 : decode cX7_clearBank 4 = .ok (.aload_n 0, 1) := by decide +kernel
theorem dX7_clearBank_5 : decode cX7_clearBank 5 = .ok (.getfield 205, 3) := by decide +kernel
theorem dX7_clearBank_8 : decode cX7_clearBank 8 = .ok (.iconst 0, 1) := by decide +kernel
theorem dX7_clearBank_9 : decode cX7_clearBank 9 = .ok (.iastore, 1) := by decide +kernel
theorem dX7_clearBank_10 : decode cX7_clearBank 10 = .ok (.aload_n 0, 1) := by decide +kernel
theorem dX7_clearBank_11 : decode cX7_clearBank 11 = .ok (.getfield 24, 3) := by decide +kernel
theorem dX7_clearBank_14 : decode cX7_clearBank 14 = .ok (.aload_n 0, 1) := by decide +kernel
theorem dX7_clearBank_15 : decode cX7_clearBank 15 = .ok (.getfield 205, 3) := by decide +kernel
theorem dX7_clearBank_18 : decode cX7_clearBank 18 = .ok (.iconst 0, 1) := by decide +kernel
theorem dX7_clearBank_19 : decode cX7_clearBank 19 = .ok (.iastore, 1) := by decide +kernel
theorem dX7_clearBank_20 : decode cX7_clearBank 20 = .ok (.aload_n 0, 1) := by decide +kernel
theorem dX7_clearBank_21 : decode cX7_clearBank 21 = .ok (.getfield 27, 3) := by decide +kernel
theorem dX7_clearBank_24 : decode cX7_clearBank 24 = .ok (.aload_n 0, 1) := by decide +kernel
theorem dX7_clearBank_25 : decode cX7_clearBank 25 = .ok (.getfield 205, 3) := by decide +kernel
theorem dX7_clearBank_28 : decode cX7_clearBank 28 = .ok (.iconst 0, 1) := by decide +kernel
theorem dX7_clearBank_29 : decode cX7_clearBank 29 = .ok (.iastore, 1) := by decide +kernel
theorem dX7_clearBank_30 : decode cX7_clearBank 30 = .ok (.aload_n 0, 1) := by decide +kernel
theorem dX7_clearBank_31 : decode cX7_clearBank 31 = .ok (.getfield 30, 3) := by decide +kernel
theorem dX7_clearBank_34 : decode cX7_clearBank 34 = .ok (.aload_n 0, 1) := by decide +kernel
theorem dX7_clearBank_35 : decode cX7_clearBank 35 = .ok (.getfield 205, 3) := by decide +kernel
theorem dX7_clearBank_38 : decode cX7_clearBank 38 = .ok (.iconst 0, 1) := by decide +kernel
theorem dX7_clearBank_39 : decode cX7_clearBank 39 = .ok (.iastore, 1) := by decide +kernel
theorem dX7_clearBank_40 : decode cX7_clearBank 40 = .ok (.aload_n 0, 1) := by decide +kernel
theorem dX7_clearBank_41 : decode cX7_clearBank 41 = .ok (.getfield 33, 3) := by decide +kernel
theorem dX7_clearBank_44 : decode cX7_clearBank 44 = .ok (.aload_n 0, 1) := by decide +kernel
theorem dX7_clearBank_45 : decode cX7_clearBank 45 = .ok (.getfield 205, 3) := by decide +kernel
theorem dX7_clearBank_48 : decode cX7_clearBank 48 = .ok (.iconst 2, 1) := by decide +kernel
theorem dX7_clearBank_49 : decode cX7_clearBank 49 = .ok (.iastore, 1) := by decide +kernel
theorem dX7_clearBank_50 : decode cX7_clearBank 50 = .ok (.aload_n 0, 1) := by decide +kernel
theorem dX7_clearBank_51 : decode cX7_clearBank 51 = .ok (.getfield 36, 3) := by decide +kernel
theorem dX7_clearBank_54 : decode cX7_clearBank 54 = .ok (.aload_n 0, 1) := by decide +kernel
theorem dX7_clearBank_55 : decode cX7_clearBank 55 = .ok (.getfield 205, 3) := by decide +kernel
theorem dX7_clearBank_58 : decode cX7_clearBank 58 = .ok (.iconst 0, 1) := by decide +kernel
theorem dX7_clearBank_59 : decode cX7_clearBank 59 = .ok (.iastore, 1) := by decide +kernel
theorem dX7_clearBank_60 : decode cX7_clearBank 60 = .ok (.aload_n 0, 1) := by decide +kernel
theorem dX7_clearBank_61 : decode cX7_clearBank 61 = .ok (.getfield 39, 3) := by decide +kernel
theorem dX7_clearBank_64 : decode cX7_clearBank 64 = .ok (.aload_n 0, 1) := by decide +kernel
theorem dX7_clearBank_65 : decode cX7_clearBank 65 = .ok (.getfield 205, 3) := by decide +kernel
theorem dX7_clearBank_68 : decode cX7_clearBank 68 = .ok (.iconst 0, 1) := by decide +kernel
theorem dX7_clearBank_69 : decode cX7_clearBank 69 = .ok (.iastore, 1) := by decide +kernel
theorem dX7_clearBank_70 : decode cX7_clearBank 70 = .ok (.aload_n 0, 1) := by decide +kernel
theorem dX7_clearBank_71 : decode cX7_clearBank 71 = .ok (.getfield 42, 3) := by decide +kernel
theorem dX7_clearBank_74 : decode cX7_clearBank 74 = .ok (.aload_n 0, 1) := by decide +kernel
theorem dX7_clearBank_75 : decode cX7_clearBank 75 = .ok (.getfield 205, 3) := by decide +kernel
theorem dX7_clearBank_78 : decode cX7_clearBank 78 = .ok (.iconst 0, 1) := by decide +kernel
theorem dX7_clearBank_79 : decode cX7_clearBank 79 = .ok (.iastore, 1) := by decide +kernel
theorem dX7_clearBank_80 : decode cX7_clearBank 80 = .ok (.aload_n 0, 1) := by decide +kernel
theorem dX7_clearBank_81 : decode cX7_clearBank 81 = .ok (.sipush 560, 3) := by decide +kernel
theorem dX7_clearBank_84 : decode cX7_clearBank 84 = .ok (.aload_n 0, 1) := by decide +kernel
theorem dX7_clearBank_85 : decode cX7_clearBank 85 = .ok (.getfield 205, 3) := by decide +kernel
theorem dX7_clearBank_88 : decode cX7_clearBank 88 = .ok (.imul, 1) := by decide +kernel
theorem dX7_clearBank_89 : decode cX7_clearBank 89 = .ok (.putfield 208, 3) := by decide +kernel
theorem dX7_clearBank_92 : decode cX7_clearBank 92 = .ok (.return_, 1) := by decide +kernel
theorem dX7_chain_0 : decode cX7_chain 0 = .ok (.aload_n 0, 1) := by decide +kernel
theorem dX7_chain_1 : decode cX7_chain 1 = .ok (.iconst 0, 1) := by decide +kernel
theorem dX7_chain_2 : decode cX7_chain 2 = .ok (.putfield 122, 3) := by decide +kernel
theorem dX7_chain_5 : decode cX7_chain 5 = .ok (.aload_n 0, 1) := by decide +kernel
theorem dX7_chain_6 : decode cX7_chain 6 = .ok (.iconst (-1), 1) := by decide +kernel
theorem dX7_chain_7 : decode cX7_chain 7 = .ok (.putfield 16, 3) := by decide +kernel
theorem dX7_chain_10 : decode cX7_chain 10 = .ok (.aload_n 0, 1) := by decide +kernel
theorem dX7_chain_11 : decode cX7_chain 11 = .ok (.aload_n 0, 1) := by decide +kernel
theorem dX7_chain_12 : decode cX7_chain 12 = .ok (.getfield 211, 3) := by decide +kernel
theorem dX7_chain_15 : decode cX7_chain 15 = .ok (.putfield 119, 3) := by decide +kernel
theorem dX7_chain_18 : decode cX7_chain 18 = .ok (.iconst 0, 1) := by decide +kernel
theorem dX7_chain_19 : decode cX7_chain 19 = .ok (.istore_n 1, 1) := by decide +kernel
theorem dX7_chain_20 : decode cX7_chain 20 = .ok (.iload_n 1, 1) := by decide +kernel
theorem dX7_chain_21 : decode cX7_chain 21 = .ok (.aload_n 0, 1) := by decide +kernel
theorem dX7_chain_22 : decode cX7_chain 22 = .ok (.getfield 119, 3) := by decide +kernel
theorem dX7_chain_25 : decode cX7_chain 25 = .ok (.if_icmp .ge 21, 3) := by decide +kernel
theorem dX7_chain_28 : decode cX7_chain 28 = .ok (.aload_n 0, 1) := by decide +kernel
theorem dX7_chain_29 : decode cX7_chain 29 = .ok (.getfield 13, 3) := by decide +kernel
theorem dX7_chain_32 : decode cX7_chain 32 = .ok (.iload_n 1, 1) := by decide +kernel
theorem dX7_chain_33 : decode cX7_chain 33 = .ok (.aload_n 0, 1) := by decide +kernel
theorem dX7_chain_34 : decode cX7_chain 34 = .ok (.getfield 7, 3) := by decide +kernel
theorem dX7_chain_37 : decode cX7_chain 37 = .ok (.iload_n 1, 1) := by decide +kernel
theorem dX7_chain_38 : decode cX7_chain 38 = .ok (.baload, 1) := by decide +kernel
theorem dX7_chain_39 : decode cX7_chain 39 = .ok (.bastore, 1) := by decide +kernel
theorem dX7_chain_40 : decode cX7_chain 40 = .ok (.iinc 1 1, 3) := by decide +kernel
theorem dX7_chain_43 : decode cX7_chain 43 = .ok (.goto (-23), 3) := by decide +kernel
theorem dX7_chain_46 : decode cX7_chain 46 = .ok (.aload_n 0, 1) := by decide +kernel
theorem dX7_chain_47 : decode cX7_chain 47 = .ok (.iconst 0, 1) := by decide +kernel
theorem dX7_chain_48 : decode cX7_chain 48 = .ok (.putfield 211, 3) := by decide +kernel
theorem dX7_chain_51 : decode cX7_chain 51 = .ok (.aload_n 0, 1) := by decide +kernel
theorem dX7_chain_52 : decode cX7_chain 52 = .ok (.iconst 0, 1) := by decide +kernel
theorem dX7_chain_53 : decode cX7_chain 53 = .ok (.putfield 157, 3) := by decide +kernel
theorem dX7_chain_56 : decode cX7_chain 56 = .ok (.aload_n 0, 1) := by decide +kernel
theorem dX7_chain_57 : decode cX7_chain 57 = .ok (.iconst 1, 1) := by decide +kernel
theorem dX7_chain_58 : decode cX7_chain 58 = .ok (.aload_n 0, 1) := by decide +kernel
theorem dX7_chain_59 : decode cX7_chain 59 = .ok (.getfield 214, 3) := by decide +kernel
theorem dX7_chain_62 : decode cX7_chain 62 = .ok (.isub, 1) := by decide +kernel
theorem dX7_chain_63 : decode cX7_chain 63 = .ok (.putfield 205, 3) := by decide +kernel
theorem dX7_chain_66 : decode cX7_chain 66 = .ok (.aload_n 0, 1) := by decide +kernel
theorem dX7_chain_67 : decode cX7_chain 67 = .ok (.invokevirtual 113, 3) := by decide +kernel
theorem dX7_chain_70 : decode cX7_chain 70 = .ok (.aload_n 0, 1) := by decide +kernel
theorem dX7_chain_71 : decode cX7_chain 71 = .ok (.invokevirtual 199, 3) := by decide +kernel
theorem dX7_chain_74 : decode cX7_chain 74 = .ok (.aload_n 0, 1) := by decide +kernel
theorem dX7_chain_75 : decode cX7_chain 75 = .ok (.invokevirtual 195, 3) := by decide +kernel
theorem dX7_chain_78 : decode cX7_chain 78 = .ok (.ifCond .eq 17, 3) := by decide +kernel
theorem dX7_chain_81 : decode cX7_chain 81 = .ok (.aload_n 0, 1) := by decide +kernel
theorem dX7_chain_82 : decode cX7_chain 82 = .ok (.getfield 167, 3) := by decide +kernel
theorem dX7_chain_85 : decode cX7_chain 85 = .ok (.ifCond .eq 10, 3) := by decide +kernel
theorem dX7_chain_88 : decode cX7_chain 88 = .ok (.aload_n 0, 1) := by decide +kernel
theorem dX7_chain_89 : decode cX7_chain 89 = .ok (.invokevirtual 217, 3) := by decide +kernel
theorem dX7_chain_92 : decode cX7_chain 92 = .ok (.goto (-18), 3) := by decide +kernel
theorem dX7_chain_95 : decode cX7_chain 95 = .ok (.aload_n 0, 1) := by decide +kernel
theorem dX7_chain_96 : decode cX7_chain 96 = .ok (.invokevirtual 195, 3) := by decide +kernel
theorem dX7_chain_99 : decode cX7_chain 99 = .ok (.ifCond .ne 5, 3) := by decide +kernel
theorem dX7_chain_102 : decode cX7_chain 102 = .ok (.iconst (-1), 1) := by decide +kernel
theorem dX7_chain_103 : decode cX7_chain 103 = .ok (.ireturn, 1) := by decide +kernel
theorem dX7_chain_104 : decode cX7_chain 104 = .ok (.aload_n 0, 1) := by decide +kernel
theorem dX7_chain_105 : decode cX7_chain 105 = .ok (.aload_n 0, 1) := by decide +kernel
theorem dX7_chain_106 : decode cX7_chain 106 = .ok (.getfield 205, 3) := by decide +kernel
theorem dX7_chain_109 : decode cX7_chain 109 = .ok (.putfield 214, 3) := by decide +kernel
theorem dX7_chain_112 : decode cX7_chain 112 = .ok (.aload_n 0, 1) := by decide +kernel
theorem dX7_chain_113 : decode cX7_chain 113 = .ok (.invokevirtual 116, 3) := by decide +kernel
theorem dX7_chain_116 : decode cX7_chain 116 = .ok (.aload_n 0, 1) := by decide +kernel
theorem dX7_chain_117 : decode cX7_chain 117 = .ok (.getfield 24, 3) := by decide +kernel
theorem dX7_chain_120 : decode cX7_chain 120 = .ok (.aload_n 0, 1) := by decide +kernel
theorem dX7_chain_121 : decode cX7_chain 121 = .ok (.getfield 214, 3) := by decide +kernel
theorem dX7_chain_124 : decode cX7_chain 124 = .ok (.iaload, 1) := by decide +kernel
theorem dX7_chain_125 : decode cX7_chain 125 = .ok (.ireturn, 1) := by decide +kernel
theorem dX7_isFull_0 : decode cX7_isFull 0 = .ok (.aload_n 0, 1) := by decide +kernel
theorem dX7_isFull_1 : decode cX7_isFull 1 = .ok (.ldc2_w 125, 3) := by decide +kernel
theorem dX7_isFull_4 : decode cX7_isFull 4 = .ok (.invokevirtual 220, 3) := by decide +kernel
theorem dX7_isFull_7 : decode cX7_isFull 7 = .ok (.ifCond .eq 37, 3) := by decide +kernel
theorem dX7_isFull_10 : decode cX7_isFull 10 = .ok (.aload_n 0, 1) := by decide +kernel
theorem dX7_isFull_11 : decode cX7_isFull 11 = .ok (.getfield 20, 3) := by decide +kernel
theorem dX7_isFull_14 : decode cX7_isFull 14 = .ok (.aload_n 0, 1) := by decide +kernel
theorem dX7_isFull_15 : decode cX7_isFull 15 = .ok (.getfield 205, 3) := by decide +kernel
theorem dX7_isFull_18 : decode cX7_isFull 18 = .ok (.iaload, 1) := by decide +kernel
theorem dX7_isFull_19 : decode cX7_isFull 19 = .ok (.bipush 8, 2) := by decide +kernel
theorem dX7_isFull_21 : decode cX7_isFull 21 = .ok (.if_icmp .eq 17, 3) := by decide +kernel
theorem dX7_isFull_24 : decode cX7_isFull 24 = .ok (.aload_n 0, 1) := by decide +kernel
theorem dX7_isFull_25 : decode cX7_isFull 25 = .ok (.getfield 24, 3) := by decide +kernel
theorem dX7_isFull_28 : decode cX7_isFull 28 = .ok (.aload_n 0, 1) := by decide +kernel
theorem dX7_isFull_29 : decode cX7_isFull 29 = .ok (.getfield 205, 3) := by decide +kernel
theorem dX7_isFull_32 : decode cX7_isFull 32 = .ok (.iaload, 1) := by decide +kernel
theorem dX7_isFull_33 : decode cX7_isFull 33 = .ok (.bipush 6, 2) := by decide +kernel
theorem dX7_isFull_35 : decode cX7_isFull 35 = .ok (.if_icmp .ne 7, 3) := by decide +kernel
theorem dX7_isFull_38 : decode cX7_isFull 38 = .ok (.iconst 1, 1) := by decide +kernel
theorem dX7_isFull_39 : decode cX7_isFull 39 = .ok (.goto 4, 3) := by decide +kernel
theorem dX7_isFull_42 : decode cX7_isFull 42 = .ok (.iconst 0, 1) := by decide +kernel
theorem dX7_isFull_43 : decode cX7_isFull 43 = .ok (.ireturn, 1) := by decide +kernel
theorem dX7_isFull_44 : decode cX7_isFull 44 = .ok (.aload_n 0, 1) := by decide +kernel
theorem dX7_isFull_45 : decode cX7_isFull 45 = .ok (.ldc2_w 127, 3) := by decide +kernel
theorem dX7_isFull_48 : decode cX7_isFull 48 = .ok (.invokevirtual 220, 3) := by decide +kernel
theorem dX7_isFull_51 : decode cX7_isFull 51 = .ok (.ifCond .eq 23, 3) := by decide +kernel
theorem dX7_isFull_54 : decode cX7_isFull 54 = .ok (.aload_n 0, 1) := by decide +kernel
theorem dX7_isFull_55 : decode cX7_isFull 55 = .ok (.getfield 20, 3) := by decide +kernel
theorem dX7_isFull_58 : decode cX7_isFull 58 = .ok (.aload_n 0, 1) := by decide +kernel
theorem dX7_isFull_59 : decode cX7_isFull 59 = .ok (.getfield 205, 3) := by decide +kernel
theorem dX7_isFull_62 : decode cX7_isFull 62 = .ok (.iaload, 1) := by decide +kernel
theorem dX7_isFull_63 : decode cX7_isFull 63 = .ok (.bipush 8, 2) := by decide +kernel
theorem dX7_isFull_65 : decode cX7_isFull 65 = .ok (.if_icmp .ne 7, 3) := by decide +kernel
theorem dX7_isFull_68 : decode cX7_isFull 68 = .ok (.iconst 1, 1) := by decide +kernel
theorem dX7_isFull_69 : decode cX7_isFull 69 = .ok (.goto 4, 3) := by decide +kernel
theorem dX7_isFull_72 : decode cX7_isFull 72 = .ok (.iconst 0, 1) := by decide +kernel
theorem dX7_isFull_73 : decode cX7_isFull 73 = .ok (.ireturn, 1) := by decide +kernel
theorem dX7_isFull_74 : decode cX7_isFull 74 = .ok (.aload_n 0, 1) := by decide +kernel
theorem dX7_isFull_75 : decode cX7_isFull 75 = .ok (.ldc2_w 129, 3) := by decide +kernel
theorem dX7_isFull_78 : decode cX7_isFull 78 = .ok (.invokevirtual 220, 3) := by decide +kernel
theorem dX7_isFull_81 : decode cX7_isFull 81 = .ok (.ifCond .eq 22, 3) := by decide +kernel
theorem dX7_isFull_84 : decode cX7_isFull 84 = .ok (.aload_n 0, 1) := by decide +kernel
theorem dX7_isFull_85 : decode cX7_isFull 85 = .ok (.getfield 27, 3) := by decide +kernel
theorem dX7_isFull_88 : decode cX7_isFull 88 = .ok (.aload_n 0, 1) := by decide +kernel
theorem dX7_isFull_89 : decode cX7_isFull 89 = .ok (.getfield 205, 3) := by decide +kernel
theorem dX7_isFull_92 : decode cX7_isFull 92 = .ok (.iaload, 1) := by decide +kernel
theorem dX7_isFull_93 : decode cX7_isFull 93 = .ok (.iconst 4, 1) := by decide +kernel
theorem dX7_isFull_94 : decode cX7_isFull 94 = .ok (.if_icmp .ne 7, 3) := by decide +kernel
theorem dX7_isFull_97 : decode cX7_isFull 97 = .ok (.iconst 1, 1) := by decide +kernel
theorem dX7_isFull_98 : decode cX7_isFull 98 = .ok (.goto 4, 3) := by decide +kernel
theorem dX7_isFull_101 : decode cX7_isFull 101 = .ok (.iconst 0, 1) := by decide +kernel
theorem dX7_isFull_102 : decode cX7_isFull 102 = .ok (.ireturn, 1) := by decide +kernel
theorem dX7_isFull_103 : decode cX7_isFull 103 = .ok (.aload_n 0, 1) := by decide +kernel
theorem dX7_isFull_104 : decode cX7_isFull 104 = .ok (.ldc2_w 131, 3) := by decide +kernel
theorem dX7_isFull_107 : decode cX7_isFull 107 = .ok (.invokevirtual 220, 3) := by decide +kernel
theorem dX7_isFull_110 : decode cX7_isFull 110 = .ok (.ifCond .eq 17, 3) := by decide +kernel
theorem dX7_isFull_113 : decode cX7_isFull 113 = .ok (.aload_n 0, 1) := by decide +kernel
theorem dX7_isFull_114 : decode cX7_isFull 114 = .ok (.getfield 42, 3) := by decide +kernel
theorem dX7_isFull_117 : decode cX7_isFull 117 = .ok (.aload_n 0, 1) := by decide +kernel
theorem dX7_isFull_118 : decode cX7_isFull 118 = .ok (.getfield 205, 3) := by decide +kernel
theorem dX7_isFull_121 : decode cX7_isFull 121 = .ok (.iaload, 1) := by decide +kernel
theorem dX7_isFull_122 : decode cX7_isFull 122 = .ok (.iconst 0, 1) := by decide +kernel
theorem dX7_isFull_123 : decode cX7_isFull 123 = .ok (.invokestatic 223, 3) := by decide +kernel
theorem dX7_isFull_126 : decode cX7_isFull 126 = .ok (.ireturn, 1) := by decide +kernel
theorem dX7_isFull_127 : decode cX7_isFull 127 = .ok (.aload_n 0, 1) := by decide +kernel
theorem dX7_isFull_128 : decode cX7_isFull 128 = .ok (.ldc2_w 133, 3) := by decide +kernel
theorem dX7_isFull_131 : decode cX7_isFull 131 = .ok (.invokevirtual 220, 3) := by decide +kernel
theorem dX7_isFull_134 : decode cX7_isFull 134 = .ok (.ifCond .eq 17, 3) := by decide +kernel
theorem dX7_isFull_137 : decode cX7_isFull 137 = .ok (.aload_n 0, 1) := by decide +kernel
theorem dX7_isFull_138 : decode cX7_isFull 138 = .ok (.getfield 42, 3) := by decide +kernel
theorem dX7_isFull_141 : decode cX7_isFull 141 = .ok (.aload_n 0, 1) := by decide +kernel
theorem dX7_isFull_142 : decode cX7_isFull 142 = .ok (.getfield 205, 3) := by decide +kernel
theorem dX7_isFull_145 : decode cX7_isFull 145 = .ok (.iaload, 1) := by decide +kernel
theorem dX7_isFull_146 : decode cX7_isFull 146 = .ok (.iconst 1, 1) := by decide +kernel
theorem dX7_isFull_147 : decode cX7_isFull 147 = .ok (.invokestatic 223, 3) := by decide +kernel
theorem dX7_isFull_150 : decode cX7_isFull 150 = .ok (.ireturn, 1) := by decide +kernel
theorem dX7_isFull_151 : decode cX7_isFull 151 = .ok (.aload_n 0, 1) := by decide +kernel
theorem dX7_isFull_152 : decode cX7_isFull 152 = .ok (.ldc2_w 135, 3) := by decide +kernel
theorem dX7_isFull_155 : decode cX7_isFull 155 = .ok (.invokevirtual 220, 3) := by decide +kernel
theorem dX7_isFull_158 : decode cX7_isFull 158 = .ok (.ifCond .eq 17, 3) := by decide +kernel
theorem dX7_isFull_161 : decode cX7_isFull 161 = .ok (.aload_n 0, 1) := by decide +kernel
theorem dX7_isFull_162 : decode cX7_isFull 162 = .ok (.getfield 42, 3) := by decide +kernel
theorem dX7_isFull_165 : decode cX7_isFull 165 = .ok (.aload_n 0, 1) := by decide +kernel
theorem dX7_isFull_166 : decode cX7_isFull 166 = .ok (.getfield 205, 3) := by decide +kernel
theorem dX7_isFull_169 : decode cX7_isFull 169 = .ok (.iaload, 1) := by decide +kernel
theorem dX7_isFull_170 : decode cX7_isFull 170 = .ok (.iconst 2, 1) := by decide +kernel
theorem dX7_isFull_171 : decode cX7_isFull 171 = .ok (.invokestatic 223, 3) := by decide +kernel
theorem dX7_isFull_174 : decode cX7_isFull 174 = .ok (.ireturn, 1) := by decide +kernel
theorem dX7_isFull_175 : decode cX7_isFull 175 = .ok (.aload_n 0, 1) := by decide +kernel
theorem dX7_isFull_176 : decode cX7_isFull 176 = .ok (.ldc2_w 137, 3) := by decide +kernel
theorem dX7_isFull_179 : decode cX7_isFull 179 = .ok (.invokevirtual 220, 3) := by decide +kernel
theorem dX7_isFull_182 : decode cX7_isFull 182 = .ok (.ifCond .eq 19, 3) := by decide +kernel
theorem dX7_isFull_185 : decode cX7_isFull 185 = .ok (.aload_n 0, 1) := by decide +kernel
theorem dX7_isFull_186 : decode cX7_isFull 186 = .ok (.getfield 42, 3) := by decide +kernel
theorem dX7_isFull_189 : decode cX7_isFull 189 = .ok (.aload_n 0, 1) := by decide +kernel
theorem dX7_isFull_190 : decode cX7_isFull 190 = .ok (.getfield 205, 3) := by decide +kernel
theorem dX7_isFull_193 : decode cX7_isFull 193 = .ok (.iaload, 1) := by decide +kernel
theorem dX7_isFull_194 : decode cX7_isFull 194 = .ok (.iconst 3, 1) := by decide +kernel
theorem dX7_isFull_195 : decode cX7_isFull 195 = .ok (.invokestatic 223, 3) := by decide +kernel
theorem dX7_isFull_198 : decode cX7_isFull 198 = .ok (.ifCond .eq 7, 3) := by decide +kernel
theorem dX7_isFull_201 : decode cX7_isFull 201 = .ok (.iconst 1, 1) := by decide +kernel
theorem dX7_isFull_202 : decode cX7_isFull 202 = .ok (.goto 4, 3) := by decide +kernel
theorem dX7_isFull_205 : decode cX7_isFull 205 = .ok (.iconst 0, 1) := by decide +kernel
theorem dX7_isFull_206 : decode cX7_isFull 206 = .ok (.ireturn, 1) := by decide +kernel
theorem dX7_once_0 : decode cX7_once 0 = .ok (.aload_n 0, 1) := by decide +kernel
theorem dX7_once_1 : decode cX7_once 1 = .ok (.getfield 42, 3) := by decide +kernel
theorem dX7_once_4 : decode cX7_once 4 = .ok (.aload_n 0, 1) := by decide +kernel
theorem dX7_once_5 : decode cX7_once 5 = .ok (.getfield 205, 3) := by decide +kernel
theorem dX7_once_8 : decode cX7_once 8 = .ok (.dup2, 1) := by decide +kernel
theorem dX7_once_9 : decode cX7_once 9 = .ok (.iaload, 1) := by decide +kernel
theorem dX7_once_10 : decode cX7_once 10 = .ok (.iconst 1, 1) := by decide +kernel
theorem dX7_once_11 : decode cX7_once 11 = .ok (.iload_n 1, 1) := by decide +kernel
theorem dX7_once_12 : decode cX7_once 12 = .ok (.ishl, 1) := by decide +kernel
theorem dX7_once_13 : decode cX7_once 13 = .ok (.ior, 1) := by decide +kernel
theorem dX7_once_14 : decode cX7_once 14 = .ok (.iastore, 1) := by decide +kernel
theorem dX7_once_15 : decode cX7_once 15 = .ok (.aload_n 0, 1) := by decide +kernel
theorem dX7_once_16 : decode cX7_once 16 = .ok (.iload_n 2, 1) := by decide +kernel
theorem dX7_once_17 : decode cX7_once 17 = .ok (.iload_n 3, 1) := by decide +kernel
theorem dX7_once_18 : decode cX7_once 18 = .ok (.invokevirtual 227, 3) := by decide +kernel
theorem dX7_once_21 : decode cX7_once 21 = .ok (.ireturn, 1) := by decide +kernel
theorem dX7_readLine_0 : decode cX7_readLine 0 = .ok (.aload_n 0, 1) := by decide +kernel
theorem dX7_readLine_1 : decode cX7_readLine 1 = .ok (.getfield 174, 3) := by decide +kernel
theorem dX7_readLine_4 : decode cX7_readLine 4 = .ok (.lstore_n 1, 1) := by decide +kernel
theorem dX7_readLine_5 : decode cX7_readLine 5 = .ok (.aload_n 0, 1) := by decide +kernel
theorem dX7_readLine_6 : decode cX7_readLine 6 = .ok (.getfield 167, 3) := by decide +kernel
