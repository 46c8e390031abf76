theorem dX7_node_98 : decode cX7_node 98 = .ok (.bipush 105, 2) := by decide +kernel
theorem dX7_node_100 : decode cX7_node 100 = .ok (.iaload, 1) := by decide +kernel
theorem dX7_node_101 : decode cX7_node 101 = .ok (.iload_n 1, 1) := by decide +kernel
theorem dX7_node_102 : decode cX7_node 102 = .ok (.if_icmp .ne 7, 3) := by decide +kernel
theorem dX7_node_105 : decode cX7_node 105 = .ok (.iconst 1, 1) := by decide +kernel
theorem dX7_node_106 : decode cX7_node 106 = .ok (.goto 4, 3) := by decide +kernel
theorem dX7_node_109 : decode cX7_node 109 = .ok (.iconst 0, 1) := by decide +kernel
theorem dX7_node_110 : decode cX7_node 110 = .ok (.ireturn, 1) := by decide +kernel
theorem dX7_node_111 : decode cX7_node 111 = .ok (.bipush (-2), 2) := by decide +kernel
theorem dX7_node_113 : decode cX7_node 113 = .ok (.ireturn, 1) := by decide +kernel
theorem dX7_underOf_0 : decode cX7_underOf 0 = .ok (.iload_n 2, 1) := by decide +kernel
theorem dX7_underOf_1 : decode cX7_underOf 1 = .ok (.ifCond .ne 19, 3) := by decide +kernel
theorem dX7_underOf_4 : decode cX7_underOf 4 = .ok (.aload_n 0, 1) := by decide +kernel
theorem dX7_underOf_5 : decode cX7_underOf 5 = .ok (.iload_n 1, 1) := by decide +kernel
theorem dX7_underOf_6 : decode cX7_underOf 6 = .ok (.invokevirtual 354, 3) := by decide +kernel
theorem dX7_underOf_9 : decode cX7_underOf 9 = .ok (.aload_n 0, 1) := by decide +kernel
theorem dX7_underOf_10 : decode cX7_underOf 10 = .ok (.iload_n 1, 1) := by decide +kernel
theorem dX7_underOf_11 : decode cX7_underOf 11 = .ok (.iconst 1, 1) := by decide +kernel
theorem dX7_underOf_12 : decode cX7_underOf 12 = .ok (.iadd, 1) := by decide +kernel
theorem dX7_underOf_13 : decode cX7_underOf 13 = .ok (.invokevirtual 354, 3) := by decide +kernel
theorem dX7_underOf_16 : decode cX7_underOf 16 = .ok (.isub, 1) := by decide +kernel
theorem dX7_underOf_17 : decode cX7_underOf 17 = .ok (.goto 16, 3) := by decide +kernel
theorem dX7_underOf_20 : decode cX7_underOf 20 = .ok (.aload_n 0, 1) := by decide +kernel
theorem dX7_underOf_21 : decode cX7_underOf 21 = .ok (.iload_n 1, 1) := by decide +kernel
theorem dX7_underOf_22 : decode cX7_underOf 22 = .ok (.iconst 1, 1) := by decide +kernel
theorem dX7_underOf_23 : decode cX7_underOf 23 = .ok (.iadd, 1) := by decide +kernel
theorem dX7_underOf_24 : decode cX7_underOf 24 = .ok (.invokevirtual 365, 3) := by decide +kernel
theorem dX7_underOf_27 : decode cX7_underOf 27 = .ok (.aload_n 0, 1) := by decide +kernel
theorem dX7_underOf_28 : decode cX7_underOf 28 = .ok (.iload_n 1, 1) := by decide +kernel
theorem dX7_underOf_29 : decode cX7_underOf 29 = .ok (.invokevirtual 365, 3) := by decide +kernel
theorem dX7_underOf_32 : decode cX7_underOf 32 = .ok (.isub, 1) := by decide +kernel
theorem dX7_underOf_33 : decode cX7_underOf 33 = .ok (.ireturn, 1) := by decide +kernel
theorem dX7_under_0 : decode cX7_under 0 = .ok (.iload_n 1, 1) := by decide +kernel
theorem dX7_under_1 : decode cX7_under 1 = .ok (.iconst 0, 1) := by decide +kernel
theorem dX7_under_2 : decode cX7_under 2 = .ok (.aload_n 0, 1) := by decide +kernel
theorem dX7_under_3 : decode cX7_under 3 = .ok (.invokevirtual 313, 3) := by decide +kernel
theorem dX7_under_6 : decode cX7_under 6 = .ok (.iconst 2, 1) := by decide +kernel
theorem dX7_under_7 : decode cX7_under 7 = .ok (.isub, 1) := by decide +kernel
theorem dX7_under_8 : decode cX7_under 8 = .ok (.invokestatic 316, 3) := by decide +kernel
theorem dX7_under_11 : decode cX7_under 11 = .ok (.ifCond .eq 21, 3) := by decide +kernel
theorem dX7_under_14 : decode cX7_under 14 = .ok (.iload_n 2, 1) := by decide +kernel
theorem dX7_under_15 : decode cX7_under 15 = .ok (.iconst 0, 1) := by decide +kernel
theorem dX7_under_16 : decode cX7_under 16 = .ok (.iconst 1, 1) := by decide +kernel
theorem dX7_under_17 : decode cX7_under 17 = .ok (.invokestatic 316, 3) := by decide +kernel
theorem dX7_under_20 : decode cX7_under 20 = .ok (.ifCond .eq 12, 3) := by decide +kernel
theorem dX7_under_23 : decode cX7_under 23 = .ok (.aload_n 0, 1) := by decide +kernel
theorem dX7_under_24 : decode cX7_under 24 = .ok (.iload_n 1, 1) := by decide +kernel
theorem dX7_under_25 : decode cX7_under 25 = .ok (.iload_n 2, 1) := by decide +kernel
theorem dX7_under_26 : decode cX7_under 26 = .ok (.invokevirtual 401, 3) := by decide +kernel
theorem dX7_under_29 : decode cX7_under 29 = .ok (.goto 4, 3) := by decide +kernel
theorem dX7_under_32 : decode cX7_under 32 = .ok (.iconst (-1), 1) := by decide +kernel
theorem dX7_under_33 : decode cX7_under 33 = .ok (.ireturn, 1) := by decide +kernel
theorem dX7_due_0 : decode cX7_due 0 = .ok (.iload_n 1, 1) := by decide +kernel
theorem dX7_due_1 : decode cX7_due 1 = .ok (.iconst 0, 1) := by decide +kernel
theorem dX7_due_2 : decode cX7_due 2 = .ok (.aload_n 0, 1) := by decide +kernel
theorem dX7_due_3 : decode cX7_due 3 = .ok (.invokevirtual 313, 3) := by decide +kernel
theorem dX7_due_6 : decode cX7_due 6 = .ok (.iconst 2, 1) := by decide +kernel
theorem dX7_due_7 : decode cX7_due 7 = .ok (.isub, 1) := by decide +kernel
theorem dX7_due_8 : decode cX7_due 8 = .ok (.invokestatic 316, 3) := by decide +kernel
theorem dX7_due_11 : decode cX7_due 11 = .ok (.ifCond .eq 21, 3) := by decide +kernel
theorem dX7_due_14 : decode cX7_due 14 = .ok (.iload_n 2, 1) := by decide +kernel
theorem dX7_due_15 : decode cX7_due 15 = .ok (.iconst 0, 1) := by decide +kernel
theorem dX7_due_16 : decode cX7_due 16 = .ok (.iconst 1, 1) := by decide +kernel
theorem dX7_due_17 : decode cX7_due 17 = .ok (.invokestatic 316, 3) := by decide +kernel
theorem dX7_due_20 : decode cX7_due 20 = .ok (.ifCond .eq 12, 3) := by decide +kernel
theorem dX7_due_23 : decode cX7_due 23 = .ok (.aload_n 0, 1) := by decide +kernel
theorem dX7_due_24 : decode cX7_due 24 = .ok (.iload_n 1, 1) := by decide +kernel
theorem dX7_due_25 : decode cX7_due 25 = .ok (.iload_n 2, 1) := by decide +kernel
theorem dX7_due_26 : decode cX7_due 26 = .ok (.invokevirtual 401, 3) := by decide +kernel
theorem dX7_due_29 : decode cX7_due 29 = .ok (.ifCond .ne 5, 3) := by decide +kernel
theorem dX7_due_32 : decode cX7_due 32 = .ok (.iconst (-1), 1) := by decide +kernel
theorem dX7_due_33 : decode cX7_due 33 = .ok (.ireturn, 1) := by decide +kernel
theorem dX7_due_34 : decode cX7_due 34 = .ok (.iload_n 2, 1) := by decide +kernel
theorem dX7_due_35 : decode cX7_due 35 = .ok (.ifCond .ne 28, 3) := by decide +kernel
theorem dX7_due_38 : decode cX7_due 38 = .ok (.aload_n 0, 1) := by decide +kernel
theorem dX7_due_39 : decode cX7_due 39 = .ok (.getfield 76, 3) := by decide +kernel
theorem dX7_due_42 : decode cX7_due 42 = .ok (.bipush 110, 2) := by decide +kernel
theorem dX7_due_44 : decode cX7_due 44 = .ok (.bipush 41, 2) := by decide +kernel
theorem dX7_due_46 : decode cX7_due 46 = .ok (.iload_n 1, 1) := by decide +kernel
theorem dX7_due_47 : decode cX7_due 47 = .ok (.imul, 1) := by decide +kernel
theorem dX7_due_48 : decode cX7_due 48 = .ok (.iadd, 1) := by decide +kernel
theorem dX7_due_49 : decode cX7_due 49 = .ok (.aload_n 0, 1) := by decide +kernel
theorem dX7_due_50 : decode cX7_due 50 = .ok (.iload_n 1, 1) := by decide +kernel
theorem dX7_due_51 : decode cX7_due 51 = .ok (.iconst 1, 1) := by decide +kernel
theorem dX7_due_52 : decode cX7_due 52 = .ok (.iadd, 1) := by decide +kernel
theorem dX7_due_53 : decode cX7_due 53 = .ok (.invokevirtual 354, 3) := by decide +kernel
theorem dX7_due_56 : decode cX7_due 56 = .ok (.iadd, 1) := by decide +kernel
theorem dX7_due_57 : decode cX7_due 57 = .ok (.iconst 1, 1) := by decide +kernel
theorem dX7_due_58 : decode cX7_due 58 = .ok (.iadd, 1) := by decide +kernel
theorem dX7_due_59 : decode cX7_due 59 = .ok (.iaload, 1) := by decide +kernel
theorem dX7_due_60 : decode cX7_due 60 = .ok (.goto 24, 3) := by decide +kernel
theorem dX7_due_63 : decode cX7_due 63 = .ok (.aload_n 0, 1) := by decide +kernel
theorem dX7_due_64 : decode cX7_due 64 = .ok (.getfield 76, 3) := by decide +kernel
theorem dX7_due_67 : decode cX7_due 67 = .ok (.sipush 315, 3) := by decide +kernel
theorem dX7_due_70 : decode cX7_due 70 = .ok (.bipush 41, 2) := by decide +kernel
theorem dX7_due_72 : decode cX7_due 72 = .ok (.iload_n 1, 1) := by decide +kernel
theorem dX7_due_73 : decode cX7_due 73 = .ok (.imul, 1) := by decide +kernel
theorem dX7_due_74 : decode cX7_due 74 = .ok (.iadd, 1) := by decide +kernel
theorem dX7_due_75 : decode cX7_due 75 = .ok (.aload_n 0, 1) := by decide +kernel
theorem dX7_due_76 : decode cX7_due 76 = .ok (.iload_n 1, 1) := by decide +kernel
theorem dX7_due_77 : decode cX7_due 77 = .ok (.invokevirtual 365, 3) := by decide +kernel
theorem dX7_due_80 : decode cX7_due 80 = .ok (.iadd, 1) := by decide +kernel
theorem dX7_due_81 : decode cX7_due 81 = .ok (.iconst 1, 1) := by decide +kernel
theorem dX7_due_82 : decode cX7_due 82 = .ok (.iadd, 1) := by decide +kernel
theorem dX7_due_83 : decode cX7_due 83 = .ok (.iaload, 1) := by decide +kernel
theorem dX7_due_84 : decode cX7_due 84 = .ok (.aload_n 0, 1) := by decide +kernel
theorem dX7_due_85 : decode cX7_due 85 = .ok (.getfield 76, 3) := by decide +kernel
theorem dX7_due_88 : decode cX7_due 88 = .ok (.bipush 108, 2) := by decide +kernel
theorem dX7_due_90 : decode cX7_due 90 = .ok (.iaload, 1) := by decide +kernel
theorem dX7_due_91 : decode cX7_due 91 = .ok (.isub, 1) := by decide +kernel
theorem dX7_due_92 : decode cX7_due 92 = .ok (.ireturn, 1) := by decide +kernel
theorem dX7_atLeast_0 : decode cX7_atLeast 0 = .ok (.iconst 0, 1) := by decide +kernel
theorem dX7_atLeast_1 : decode cX7_atLeast 1 = .ok (.istore_n 3, 1) := by decide +kernel
theorem dX7_atLeast_2 : decode cX7_atLeast 2 = .ok (.iconst 0, 1) := by decide +kernel
theorem dX7_atLeast_3 : decode cX7_atLeast 3 = .ok (.istore 4, 2) := by decide +kernel
theorem dX7_atLeast_5 : decode cX7_atLeast 5 = .ok (.iload 4, 2) := by decide +kernel
theorem dX7_atLeast_7 : decode cX7_atLeast 7 = .ok (.aload_n 0, 1) := by decide +kernel
theorem dX7_atLeast_8 : decode cX7_atLeast 8 = .ok (.invokevirtual 313, 3) := by decide +kernel
theorem dX7_atLeast_11 : decode cX7_atLeast 11 = .ok (.if_icmp .ge 37, 3) := by decide +kernel
theorem dX7_atLeast_14 : decode cX7_atLeast 14 = .ok (.aload_n 0, 1) := by decide +kernel
theorem dX7_atLeast_15 : decode cX7_atLeast 15 = .ok (.getfield 76, 3) := by decide +kernel
theorem dX7_atLeast_18 : decode cX7_atLeast 18 = .ok (.iload_n 1, 1) := by decide +kernel
theorem dX7_atLeast_19 : decode cX7_atLeast 19 = .ok (.aload_n 0, 1) := by decide +kernel
theorem dX7_atLeast_20 : decode cX7_atLeast 20 = .ok (.iload 4, 2) := by decide +kernel
theorem dX7_atLeast_22 : decode cX7_atLeast 22 = .ok (.invokevirtual 310, 3) := by decide +kernel
theorem dX7_atLeast_25 : decode cX7_atLeast 25 = .ok (.iadd, 1) := by decide +kernel
theorem dX7_atLeast_26 : decode cX7_atLeast 26 = .ok (.iaload, 1) := by decide +kernel
theorem dX7_atLeast_27 : decode cX7_atLeast 27 = .ok (.iload_n 2, 1) := by decide +kernel
theorem dX7_atLeast_28 : decode cX7_atLeast 28 = .ok (.if_icmp .lt 14, 3) := by decide +kernel
theorem dX7_atLeast_31 : decode cX7_atLeast 31 = .ok (.iload_n 3, 1) := by decide +kernel
theorem dX7_atLeast_32 : decode cX7_atLeast 32 = .ok (.iconst 1, 1) := by decide +kernel
theorem dX7_atLeast_33 : decode cX7_atLeast 33 = .ok (.aload_n 0, 1) := by decide +kernel
theorem dX7_atLeast_34 : decode cX7_atLeast 34 = .ok (.iload 4, 2) := by decide +kernel
theorem dX7_atLeast_36 : decode cX7_atLeast 36 = .ok (.invokevirtual 310, 3) := by decide +kernel
theorem dX7_atLeast_39 : decode cX7_atLeast 39 = .ok (.ishl, 1) := by decide +kernel
theorem dX7_atLeast_40 : decode cX7_atLeast 40 = .ok (.ior, 1) := by decide +kernel
theorem dX7_atLeast_41 : decode cX7_atLeast 41 = .ok (.istore_n 3, 1) := by decide +kernel
theorem dX7_atLeast_42 : decode cX7_atLeast 42 = .ok (.iinc 4 1, 3) := by decide +kernel
theorem dX7_atLeast_45 : decode cX7_atLeast 45 = .ok (.goto (-40), 3) := by decide +kernel
theorem dX7_atLeast_48 : decode cX7_atLeast 48 = .ok (.iload_n 3, 1) := by decide +kernel
theorem dX7_atLeast_49 : decode cX7_atLeast 49 = .ok (.ireturn, 1) := by decide +kernel
theorem dX7_wrote_0 : decode cX7_wrote 0 = .ok (.aload_n 0, 1) := by decide +kernel
theorem dX7_wrote_1 : decode cX7_wrote 1 = .ok (.invokevirtual 313, 3) := by decide +kernel
theorem dX7_wrote_4 : decode cX7_wrote 4 = .ok (.ifCond .eq 16, 3) := by decide +kernel
theorem dX7_wrote_7 : decode cX7_wrote 7 = .ok (.iload_n 1, 1) := by decide +kernel
theorem dX7_wrote_8 : decode cX7_wrote 8 = .ok (.iconst 1, 1) := by decide +kernel
theorem dX7_wrote_9 : decode cX7_wrote 9 = .ok (.aload_n 0, 1) := by decide +kernel
theorem dX7_wrote_10 : decode cX7_wrote 10 = .ok (.iconst 0, 1) := by decide +kernel
theorem dX7_wrote_11 : decode cX7_wrote 11 = .ok (.invokevirtual 354, 3) := by decide +kernel
theorem dX7_wrote_14 : decode cX7_wrote 14 = .ok (.invokestatic 316, 3) := by decide +kernel
theorem dX7_wrote_17 : decode cX7_wrote 17 = .ok (.ifCond .ne 5, 3) := by decide +kernel
theorem dX7_wrote_20 : decode cX7_wrote 20 = .ok (.iconst (-1), 1) := by decide +kernel
theorem dX7_wrote_21 : decode cX7_wrote 21 = .ok (.ireturn, 1) := by decide +kernel
theorem dX7_wrote_22 : decode cX7_wrote 22 = .ok (.iload_n 2, 1) := by decide +kernel
theorem dX7_wrote_23 : decode cX7_wrote 23 = .ok (.tableswitch 84 0 4 #[33, 43, 53, 68, 76], 33) := by decide +kernel
theorem dX7_wrote_56 : decode cX7_wrote 56 = .ok (.aload_n 0, 1) := by decide +kernel
theorem dX7_wrote_57 : decode cX7_wrote 57 = .ok (.getfield 76, 3) := by decide +kernel
theorem dX7_wrote_60 : decode cX7_wrote 60 = .ok (.bipush 23, 2) := by decide +kernel
theorem dX7_wrote_62 : decode cX7_wrote 62 = .ok (.iload_n 1, 1) := by decide +kernel
theorem dX7_wrote_63 : decode cX7_wrote 63 = .ok (.iadd, 1) := by decide +kernel
theorem dX7_wrote_64 : decode cX7_wrote 64 = .ok (.iaload, 1) := by decide +kernel
theorem dX7_wrote_65 : decode cX7_wrote 65 = .ok (.ireturn, 1) := by decide +kernel
theorem dX7_wrote_66 : decode cX7_wrote 66 = .ok (.aload_n 0, 1) := by decide +kernel
theorem dX7_wrote_67 : decode cX7_wrote 67 = .ok (.getfield 76, 3) := by decide +kernel
theorem dX7_wrote_70 : decode cX7_wrote 70 = .ok (.bipush 64, 2) := by decide +kernel
theorem dX7_wrote_72 : decode cX7_wrote 72 = .ok (.iload_n 1, 1) := by decide +kernel
theorem dX7_wrote_73 : decode cX7_wrote 73 = .ok (.iadd, 1) := by decide +kernel
theorem dX7_wrote_74 : decode cX7_wrote 74 = .ok (.iaload, 1) := by decide +kernel
theorem dX7_wrote_75 : decode cX7_wrote 75 = .ok (.ireturn, 1) := by decide +kernel
theorem dX7_wrote_76 : decode cX7_wrote 76 = .ok (.iload_n 1, 1) := by decide +kernel
theorem dX7_wrote_77 : decode cX7_wrote 77 = .ok (.aload_n 0, 1) := by decide +kernel
theorem dX7_wrote_78 : decode cX7_wrote 78 = .ok (.iconst 0, 1) := by decide +kernel
theorem dX7_wrote_79 : decode cX7_wrote 79 = .ok (.invokevirtual 365, 3) := by decide +kernel
theorem dX7_wrote_82 : decode cX7_wrote 82 = .ok (.if_icmp .gt 7, 3) := by decide +kernel
theorem dX7_wrote_85 : decode cX7_wrote 85 = .ok (.iconst 1, 1) := by decide +kernel
theorem dX7_wrote_86 : decode cX7_wrote 86 = .ok (.goto 4, 3) := by decide +kernel
theorem dX7_wrote_89 : decode cX7_wrote 89 = .ok (.iconst 0, 1) := by decide +kernel
theorem dX7_wrote_90 : decode cX7_wrote 90 = .ok (.ireturn, 1) := by decide +kernel
theorem dX7_wrote_91 : decode cX7_wrote 91 = .ok (.aload_n 0, 1) := by decide +kernel
theorem dX7_wrote_92 : decode cX7_wrote 92 = .ok (.bipush 7, 2) := by decide +kernel
theorem dX7_wrote_94 : decode cX7_wrote 94 = .ok (.iload_n 1, 1) := by decide +kernel
theorem dX7_wrote_95 : decode cX7_wrote 95 = .ok (.invokevirtual 404, 3) := by decide +kernel
theorem dX7_wrote_98 : decode cX7_wrote 98 = .ok (.ireturn, 1) := by decide +kernel
theorem dX7_wrote_99 : decode cX7_wrote 99 = .ok (.aload_n 0, 1) := by decide +kernel
theorem dX7_wrote_100 : decode cX7_wrote 100 = .ok (.bipush 15, 2) := by decide +kernel
theorem dX7_wrote_102 : decode cX7_wrote 102 = .ok (.iload_n 1, 1) := by decide +kernel
theorem dX7_wrote_103 : decode cX7_wrote 103 = .ok (.invokevirtual 404, 3) := by decide +kernel
theorem dX7_wrote_106 : decode cX7_wrote 106 = .ok (.ireturn, 1) := by decide +kernel
theorem dX7_wrote_107 : decode cX7_wrote 107 = .ok (.iconst (-1), 1) := by decide +kernel
theorem dX7_wrote_108 : decode cX7_wrote 108 = .ok (.ireturn, 1) := by decide +kernel
theorem dX7_answered_0 : decode cX7_answered 0 = .ok (.aload_n 0, 1) := by decide +kernel
theorem dX7_answered_1 : decode cX7_answered 1 = .ok (.invokevirtual 313, 3) := by decide +kernel
theorem dX7_answered_4 : decode cX7_answered 4 = .ok (.ifCond .ne 7, 3) := by decide +kernel
theorem dX7_answered_7 : decode cX7_answered 7 = .ok (.iconst (-1), 1) := by decide +kernel
theorem dX7_answered_8 : decode cX7_answered 8 = .ok (.goto 8, 3) := by decide +kernel
theorem dX7_answered_11 : decode cX7_answered 11 = .ok (.aload_n 0, 1) := by decide +kernel
theorem dX7_answered_12 : decode cX7_answered 12 = .ok (.iconst 0, 1) := by decide +kernel
theorem dX7_answered_13 : decode cX7_answered 13 = .ok (.invokevirtual 365, 3) := by decide +kernel
theorem dX7_answered_16 : decode cX7_answered 16 = .ok (.ireturn, 1) := by decide +kernel
theorem dX7_traffic_0 : decode cX7_traffic 0 = .ok (.iconst 0, 1) := by decide +kernel
theorem dX7_traffic_1 : decode cX7_traffic 1 = .ok (.istore_n 1, 1) := by decide +kernel
theorem dX7_traffic_2 : decode cX7_traffic 2 = .ok (.iconst 0, 1) := by decide +kernel
theorem dX7_traffic_3 : decode cX7_traffic 3 = .ok (.istore_n 2, 1) := by decide +kernel
theorem dX7_traffic_4 : decode cX7_traffic 4 = .ok (.iload_n 2, 1) := by decide +kernel
theorem dX7_traffic_5 : decode cX7_traffic 5 = .ok (.iconst 1, 1) := by decide +kernel
theorem dX7_traffic_6 : decode cX7_traffic 6 = .ok (.iadd, 1) := by decide +kernel
theorem dX7_traffic_7 : decode cX7_traffic 7 = .ok (.aload_n 0, 1) := by decide +kernel
theorem dX7_traffic_8 : decode cX7_traffic 8 = .ok (.invokevirtual 313, 3) := by decide +kernel
theorem dX7_traffic_11 : decode cX7_traffic 11 = .ok (.if_icmp .ge 25, 3) := by decide +kernel
theorem dX7_traffic_14 : decode cX7_traffic 14 = .ok (.iload_n 1, 1) := by decide +kernel
theorem dX7_traffic_15 : decode cX7_traffic 15 = .ok (.aload_n 0, 1) := by decide +kernel
theorem dX7_traffic_16 : decode cX7_traffic 16 = .ok (.iload_n 2, 1) := by decide +kernel
theorem dX7_traffic_17 : decode cX7_traffic 17 = .ok (.iconst 0, 1) := by decide +kernel
theorem dX7_traffic_18 : decode cX7_traffic 18 = .ok (.invokevirtual 401, 3) := by decide +kernel
theorem dX7_traffic_21 : decode cX7_traffic 21 = .ok (.aload_n 0, 1) := by decide +kernel
theorem dX7_traffic_22 : decode cX7_traffic 22 = .ok (.iload_n 2, 1) := by decide +kernel
theorem dX7_traffic_23 : decode cX7_traffic 23 = .ok (.iconst 1, 1) := by decide +kernel
theorem dX7_traffic_24 : decode cX7_traffic 24 = .ok (.invokevirtual 401, 3) := by decide +kernel
theorem dX7_traffic_27 : decode cX7_traffic 27 = .ok (.iadd, 1) := by decide +kernel
theorem dX7_traffic_28 : decode cX7_traffic 28 = .ok (.iadd, 1) := by decide +kernel
theorem dX7_traffic_29 : decode cX7_traffic 29 = .ok (.istore_n 1, 1) := by decide +kernel
theorem dX7_traffic_30 : decode cX7_traffic 30 = .ok (.iinc 2 1, 3) := by decide +kernel
theorem dX7_traffic_33 : decode cX7_traffic 33 = .ok (.goto (-29), 3) := by decide +kernel
theorem dX7_traffic_36 : decode cX7_traffic 36 = .ok (.iload_n 1, 1) := by decide +kernel
theorem dX7_traffic_37 : decode cX7_traffic 37 = .ok (.ireturn, 1) := by decide +kernel
theorem dX7_idle_0 : decode cX7_idle 0 = .ok (.iconst 0, 1) := by decide +kernel
theorem dX7_idle_1 : decode cX7_idle 1 = .ok (.istore_n 1, 1) := by decide +kernel
theorem dX7_idle_2 : decode cX7_idle 2 = .ok (.iconst 0, 1) := by decide +kernel
theorem dX7_idle_3 : decode cX7_idle 3 = .ok (.istore_n 2, 1) := by decide +kernel
theorem dX7_idle_4 : decode cX7_idle 4 = .ok (.iload_n 2, 1) := by decide +kernel
theorem dX7_idle_5 : decode cX7_idle 5 = .ok (.aload_n 0, 1) := by decide +kernel
theorem dX7_idle_6 : decode cX7_idle 6 = .ok (.getfield 20, 3) := by decide +kernel
theorem dX7_idle_9 : decode cX7_idle 9 = .ok (.aload_n 0, 1) := by decide +kernel
theorem dX7_idle_10 : decode cX7_idle 10 = .ok (.getfield 214, 3) := by decide +kernel
theorem dX7_idle_13 : decode cX7_idle 13 = .ok (.iaload, 1) := by decide +kernel
theorem dX7_idle_14 : decode cX7_idle 14 = .ok (.if_icmp .ge 23, 3) := by decide +kernel
theorem dX7_idle_17 : decode cX7_idle 17 = .ok (.aload_n 0, 1) := by decide +kernel
theorem dX7_idle_18 : decode cX7_idle 18 = .ok (.iload_n 2, 1) := by decide +kernel
theorem dX7_idle_19 : decode cX7_idle 19 = .ok (.invokevirtual 323, 3) := by decide +kernel
theorem dX7_idle_22 : decode cX7_idle 22 = .ok (.ifCond .ge 9, 3) := by decide +kernel
theorem dX7_idle_25 : decode cX7_idle 25 = .ok (.iload_n 1, 1) := by decide +kernel
theorem dX7_idle_26 : decode cX7_idle 26 = .ok (.iconst 1, 1) := by decide +kernel
theorem dX7_idle_27 : decode cX7_idle 27 = .ok (.iload_n 2, 1) := by decide +kernel
theorem dX7_idle_28 : decode cX7_idle 28 = .ok (.ishl, 1) := by decide +kernel
theorem dX7_idle_29 : decode cX7_idle 29 = .ok (.ior, 1) := by decide +kernel
theorem dX7_idle_30 : decode cX7_idle 30 = .ok (.istore_n 1, 1) := by decide +kernel
theorem dX7_idle_31 : decode cX7_idle 31 = .ok (.iinc 2 1, 3) := by decide +kernel
theorem dX7_idle_34 : decode cX7_idle 34 = .ok (.goto (-30), 3) := by decide +kernel
theorem dX7_idle_37 : decode cX7_idle 37 = .ok (.iload_n 1, 1) := by decide +kernel
theorem dX7_idle_38 : decode cX7_idle 38 = .ok (.ireturn, 1) := by decide +kernel
theorem dX7_lag_0 : decode cX7_lag 0 = .ok (.aload_n 0, 1) := by decide +kernel
theorem dX7_lag_1 : decode cX7_lag 1 = .ok (.iload_n 1, 1) := by decide +kernel
theorem dX7_lag_2 : decode cX7_lag 2 = .ok (.invokevirtual 407, 3) := by decide +kernel
theorem dX7_lag_5 : decode cX7_lag 5 = .ok (.ifCond .eq 21, 3) := by decide +kernel
theorem dX7_lag_8 : decode cX7_lag 8 = .ok (.aload_n 0, 1) := by decide +kernel
theorem dX7_lag_9 : decode cX7_lag 9 = .ok (.iconst 0, 1) := by decide +kernel
theorem dX7_lag_10 : decode cX7_lag 10 = .ok (.invokevirtual 354, 3) := by decide +kernel
theorem dX7_lag_13 : decode cX7_lag 13 = .ok (.aload_n 0, 1) := by decide +kernel
theorem dX7_lag_14 : decode cX7_lag 14 = .ok (.getfield 76, 3) := by decide +kernel
theorem dX7_lag_17 : decode cX7_lag 17 = .ok (.bipush 7, 2) := by decide +kernel
theorem dX7_lag_19 : decode cX7_lag 19 = .ok (.iload_n 1, 1) := by decide +kernel
theorem dX7_lag_20 : decode cX7_lag 20 = .ok (.iadd, 1) := by decide +kernel
theorem dX7_lag_21 : decode cX7_lag 21 = .ok (.iaload, 1) := by decide +kernel
theorem dX7_lag_22 : decode cX7_lag 22 = .ok (.isub, 1) := by decide +kernel
theorem dX7_lag_23 : decode cX7_lag 23 = .ok (.goto 4, 3) := by decide +kernel
theorem dX7_lag_26 : decode cX7_lag 26 = .ok (.iconst (-1), 1) := by decide +kernel
theorem dX7_lag_27 : decode cX7_lag 27 = .ok (.ireturn, 1) := by decide +kernel
theorem dX7_peak_0 : decode cX7_peak 0 = .ok (.iload_n 1, 1) := by decide +kernel
theorem dX7_peak_1 : decode cX7_peak 1 = .ok (.iconst 0, 1) := by decide +kernel
theorem dX7_peak_2 : decode cX7_peak 2 = .ok (.iconst 1, 1) := by decide +kernel
theorem dX7_peak_3 : decode cX7_peak 3 = .ok (.invokestatic 316, 3) := by decide +kernel
theorem dX7_peak_6 : decode cX7_peak 6 = .ok (.ifCond .eq 10, 3) := by decide +kernel
theorem dX7_peak_9 : decode cX7_peak 9 = .ok (.aload_n 0, 1) := by decide +kernel
theorem dX7_peak_10 : decode cX7_peak 10 = .ok (.invokevirtual 313, 3) := by decide +kernel
theorem dX7_peak_13 : decode cX7_peak 13 = .ok (.ifCond .ne 5, 3) := by decide +kernel
theorem dX7_peak_16 : decode cX7_peak 16 = .ok (.iconst (-1), 1) := by decide +kernel
theorem dX7_peak_17 : decode cX7_peak 17 = .ok (.ireturn, 1) := by decide +kernel
theorem dX7_peak_18 : decode cX7_peak 18 = .ok (.iconst 0, 1) := by decide +kernel
theorem dX7_peak_19 : decode cX7_peak 19 = .ok (.istore_n 2, 1) := by decide +kernel
theorem dX7_peak_20 : decode cX7_peak 20 = .ok (.iconst (-1), 1) := by decide +kernel
theorem dX7_peak_21 : decode cX7_peak 21 = .ok (.istore_n 3, 1) := by decide +kernel
theorem dX7_peak_22 : decode cX7_peak 22 = .ok (.aload_n 0, 1) := by decide +kernel
theorem dX7_peak_23 : decode cX7_peak 23 = .ok (.invokevirtual 410, 3) := by decide +kernel
theorem dX7_peak_26 : decode cX7_peak 26 = .ok (.iconst 0, 1) := by decide +kernel
theorem dX7_peak_27 : decode cX7_peak 27 = .ok (.istore 4, 2) := by decide +kernel
theorem dX7_peak_29 : decode cX7_peak 29 = .ok (.iload 4, 2) := by decide +kernel
theorem dX7_peak_31 : decode cX7_peak 31 = .ok (.bipush 60, 2) := by decide +kernel
theorem dX7_peak_33 : decode cX7_peak 33 = .ok (.if_icmp .gt 33, 3) := by decide +kernel
theorem dX7_peak_36 : decode cX7_peak 36 = .ok (.aload_n 0, 1) := by decide +kernel
theorem dX7_peak_37 : decode cX7_peak 37 = .ok (.invokevirtual 413, 3) := by decide +kernel
theorem dX7_peak_40 : decode cX7_peak 40 = .ok (.iload_n 3, 1) := by decide +kernel
theorem dX7_peak_41 : decode cX7_peak 41 = .ok (.if_icmp .le 11, 3) := by decide +kernel
theorem dX7_peak_44 : decode cX7_peak 44 = .ok (.iload 4, 2) := by decide +kernel
theorem dX7_peak_46 : decode cX7_peak 46 = .ok (.istore_n 2, 1) := by decide +kernel
theorem dX7_peak_47 : decode cX7_peak 47 = .ok (.aload_n 0, 1) := by decide +kernel
theorem dX7_peak_48 : decode cX7_peak 48 = .ok (.invokevirtual 413, 3) := by decide +kernel
theorem dX7_peak_51 : decode cX7_peak 51 = .ok (.istore_n 3, 1) := by decide +kernel
theorem dX7_peak_52 : decode cX7_peak 52 = .ok (.aload_n 0, 1) := by decide +kernel
theorem dX7_peak_53 : decode cX7_peak 53 = .ok (.aload_n 0, 1) := by decide +kernel
theorem dX7_peak_54 : decode cX7_peak 54 = .ok (.invokevirtual 392, 3) := by decide +kernel
theorem dX7_peak_57 : decode cX7_peak 57 = .ok (.putfield 395, 3) := by decide +kernel
theorem dX7_peak_60 : decode cX7_peak 60 = .ok (.iinc 4 1, 3) := by decide +kernel
theorem dX7_peak_63 : decode cX7_peak 63 = .ok (.goto (-34), 3) := by decide +kernel
theorem dX7_peak_66 : decode cX7_peak 66 = .ok (.aload_n 0, 1) := by decide +kernel
theorem dX7_peak_67 : decode cX7_peak 67 = .ok (.invokevirtual 416, 3) := by decide +kernel
theorem dX7_peak_70 : decode cX7_peak 70 = .ok (.iload_n 1, 1) := by decide +kernel
theorem dX7_peak_71 : decode cX7_peak 71 = .ok (.ifCond .ne 7, 3) := by decide +kernel
theorem dX7_peak_74 : decode cX7_peak 74 = .ok (.iload_n 3, 1) := by decide +kernel
theorem dX7_peak_75 : decode cX7_peak 75 = .ok (.goto 4, 3) := by decide +kernel
theorem dX7_peak_78 : decode cX7_peak 78 = .ok (.iload_n 2, 1) := by decide +kernel
theorem dX7_peak_79 : decode cX7_peak 79 = .ok (.ireturn, 1) := by decide +kernel
theorem dX7_dirtiest_0 : decode cX7_dirtiest 0 = .ok (.iload_n 1, 1) := by decide +kernel
theorem dX7_dirtiest_1 : decode cX7_dirtiest 1 = .ok (.iconst 0, 1) := by decide +kernel
theorem dX7_dirtiest_2 : decode cX7_dirtiest 2 = .ok (.iconst 2, 1) := by decide +kernel
theorem dX7_dirtiest_3 : decode cX7_dirtiest 3 = .ok (.invokestatic 316, 3) := by decide +kernel
theorem dX7_dirtiest_6 : decode cX7_dirtiest 6 = .ok (.ifCond .ne 5, 3) := by decide +kernel
theorem dX7_dirtiest_9 : decode cX7_dirtiest 9 = .ok (.iconst (-1), 1) := by decide +kernel
theorem dX7_dirtiest_10 : decode cX7_dirtiest 10 = .ok (.ireturn, 1) := by decide +kernel
theorem dX7_dirtiest_11 : decode cX7_dirtiest 11 = .ok (.iconst (-1), 1) := by decide +kernel
theorem dX7_dirtiest_12 : decode cX7_dirtiest 12 = .ok (.istore_n 2, 1) := by decide +kernel
theorem dX7_dirtiest_13 : decode cX7_dirtiest 13 = .ok (.iconst 0, 1) := by decide +kernel
theorem dX7_dirtiest_14 : decode cX7_dirtiest 14 = .ok (.istore_n 3, 1) := by decide +kernel
theorem dX7_dirtiest_15 : decode cX7_dirtiest 15 = .ok (.iconst 0, 1) := by decide +kernel
theorem dX7_dirtiest_16 : decode cX7_dirtiest 16 = .ok (.istore 4, 2) := by decide +kernel
theorem dX7_dirtiest_18 : decode cX7_dirtiest 18 = .ok (.iload 4, 2) := by decide +kernel
theorem dX7_dirtiest_20 : decode cX7_dirtiest 20 = .ok (.aload_n 0, 1) := by decide +kernel
theorem dX7_dirtiest_21 : decode cX7_dirtiest 21 = .ok (.invokevirtual 313, 3) := by decide +kernel
theorem dX7_dirtiest_24 : decode cX7_dirtiest 24 = .ok (.aload_n 0, 1) := by decide +kernel
theorem dX7_dirtiest_25 : decode cX7_dirtiest 25 = .ok (.getfield 27, 3) := by decide +kernel
theorem dX7_dirtiest_28 : decode cX7_dirtiest 28 = .ok (.aload_n 0, 1) := by decide +kernel
theorem dX7_dirtiest_29 : decode cX7_dirtiest 29 = .ok (.getfield 214, 3) := by decide +kernel
theorem dX7_dirtiest_32 : decode cX7_dirtiest 32 = .ok (.iaload, 1) := by decide +kernel
theorem dX7_dirtiest_33 : decode cX7_dirtiest 33 = .ok (.imul, 1) := by decide +kernel
theorem dX7_dirtiest_34 : decode cX7_dirtiest 34 = .ok (.if_icmp .ge 59, 3) := by decide +kernel
theorem dX7_dirtiest_37 : decode cX7_dirtiest 37 = .ok (.aload_n 0, 1) := by decide +kernel
theorem dX7_dirtiest_38 : decode cX7_dirtiest 38 = .ok (.aload_n 0, 1) := by decide +kernel
theorem dX7_dirtiest_39 : decode cX7_dirtiest 39 = .ok (.iload 4, 2) := by decide +kernel
theorem dX7_dirtiest_41 : decode cX7_dirtiest 41 = .ok (.aload_n 0, 1) := by decide +kernel
theorem dX7_dirtiest_42 : decode cX7_dirtiest 42 = .ok (.getfield 27, 3) := by decide +kernel
theorem dX7_dirtiest_45 : decode cX7_dirtiest 45 = .ok (.aload_n 0, 1) := by decide +kernel
theorem dX7_dirtiest_46 : decode cX7_dirtiest 46 = .ok (.getfield 214, 3) := by decide +kernel
theorem dX7_dirtiest_49 : decode cX7_dirtiest 49 = .ok (.iaload, 1) := by decide +kernel
theorem dX7_dirtiest_50 : decode cX7_dirtiest 50 = .ok (.idiv, 1) := by decide +kernel
theorem dX7_dirtiest_51 : decode cX7_dirtiest 51 = .ok (.invokevirtual 310, 3) := by decide +kernel
theorem dX7_dirtiest_54 : decode cX7_dirtiest 54 = .ok (.iload 4, 2) := by decide +kernel
theorem dX7_dirtiest_56 : decode cX7_dirtiest 56 = .ok (.aload_n 0, 1) := by decide +kernel
theorem dX7_dirtiest_57 : decode cX7_dirtiest 57 = .ok (.getfield 27, 3) := by decide +kernel
theorem dX7_dirtiest_60 : decode cX7_dirtiest 60 = .ok (.aload_n 0, 1) := by decide +kernel
theorem dX7_dirtiest_61 : decode cX7_dirtiest 61 = .ok (.getfield 214, 3) := by decide +kernel
theorem dX7_dirtiest_64 : decode cX7_dirtiest 64 = .ok (.iaload, 1) := by decide +kernel
theorem dX7_dirtiest_65 : decode cX7_dirtiest 65 = .ok (.irem, 1) := by decide +kernel
theorem dX7_dirtiest_66 : decode cX7_dirtiest 66 = .ok (.iconst (-1), 1) := by decide +kernel
theorem dX7_dirtiest_67 : decode cX7_dirtiest 67 = .ok (.invokevirtual 419, 3) := by decide +kernel
theorem dX7_dirtiest_70 : decode cX7_dirtiest 70 = .ok (.istore 5, 2) := by decide +kernel
theorem dX7_dirtiest_72 : decode cX7_dirtiest 72 = .ok (.iload 5, 2) := by decide +kernel
theorem dX7_dirtiest_74 : decode cX7_dirtiest 74 = .ok (.iload_n 3, 1) := by decide +kernel
theorem dX7_dirtiest_75 : decode cX7_dirtiest 75 = .ok (.if_icmp .gt 6, 3) := by decide +kernel
theorem dX7_dirtiest_78 : decode cX7_dirtiest 78 = .ok (.goto 9, 3) := by decide +kernel
theorem dX7_dirtiest_81 : decode cX7_dirtiest 81 = .ok (.iload 4, 2) := by decide +kernel
theorem dX7_dirtiest_83 : decode cX7_dirtiest 83 = .ok (.istore_n 2, 1) := by decide +kernel
theorem dX7_dirtiest_84 : decode cX7_dirtiest 84 = .ok (.iload 5, 2) := by decide +kernel
theorem dX7_dirtiest_86 : decode cX7_dirtiest 86 = .ok (.istore_n 3, 1) := by decide +kernel
theorem dX7_dirtiest_87 : decode cX7_dirtiest 87 = .ok (.iinc 4 1, 3) := by decide +kernel
theorem dX7_dirtiest_90 : decode cX7_dirtiest 90 = .ok (.goto (-72), 3) := by decide +kernel
theorem dX7_dirtiest_93 : decode cX7_dirtiest 93 = .ok (.iload_n 2, 1) := by decide +kernel
theorem dX7_dirtiest_94 : decode cX7_dirtiest 94 = .ok (.ifCond .ge 7, 3) := by decide +kernel
theorem dX7_dirtiest_97 : decode cX7_dirtiest 97 = .ok (.iconst (-1), 1) := by decide +kernel
theorem dX7_dirtiest_98 : decode cX7_dirtiest 98 = .ok (.goto 45, 3) := by decide +kernel
theorem dX7_dirtiest_101 : decode cX7_dirtiest 101 = .ok (.iload_n 1, 1) := by decide +kernel
theorem dX7_dirtiest_102 : decode cX7_dirtiest 102 = .ok (.ifCond .ne 21, 3) := by decide +kernel
theorem dX7_dirtiest_105 : decode cX7_dirtiest 105 = .ok (.aload_n 0, 1) := by decide +kernel
theorem dX7_dirtiest_106 : decode cX7_dirtiest 106 = .ok (.iload_n 2, 1) := by decide +kernel
theorem dX7_dirtiest_107 : decode cX7_dirtiest 107 = .ok (.aload_n 0, 1) := by decide +kernel
theorem dX7_dirtiest_108 : decode cX7_dirtiest 108 = .ok (.getfield 27, 3) := by decide +kernel
theorem dX7_dirtiest_111 : decode cX7_dirtiest 111 = .ok (.aload_n 0, 1) := by decide +kernel
theorem dX7_dirtiest_112 : decode cX7_dirtiest 112 = .ok (.getfield 214, 3) := by decide +kernel
theorem dX7_dirtiest_115 : decode cX7_dirtiest 115 = .ok (.iaload, 1) := by decide +kernel
theorem dX7_dirtiest_116 : decode cX7_dirtiest 116 = .ok (.idiv, 1) := by decide +kernel
theorem dX7_dirtiest_117 : decode cX7_dirtiest 117 = .ok (.invokevirtual 310, 3) := by decide +kernel
theorem dX7_dirtiest_120 : decode cX7_dirtiest 120 = .ok (.goto 23, 3) := by decide +kernel
theorem dX7_dirtiest_123 : decode cX7_dirtiest 123 = .ok (.iload_n 1, 1) := by decide +kernel
theorem dX7_dirtiest_124 : decode cX7_dirtiest 124 = .ok (.iconst 1, 1) := by decide +kernel
theorem dX7_dirtiest_125 : decode cX7_dirtiest 125 = .ok (.if_icmp .ne 17, 3) := by decide +kernel
theorem dX7_dirtiest_128 : decode cX7_dirtiest 128 = .ok (.iload_n 2, 1) := by decide +kernel
theorem dX7_dirtiest_129 : decode cX7_dirtiest 129 = .ok (.aload_n 0, 1) := by decide +kernel
theorem dX7_dirtiest_130 : decode cX7_dirtiest 130 = .ok (.getfield 27, 3) := by decide +kernel
theorem dX7_dirtiest_133 : decode cX7_dirtiest 133 = .ok (.aload_n 0, 1) := by decide +kernel
theorem dX7_dirtiest_134 : decode cX7_dirtiest 134 = .ok (.getfield 214, 3) := by decide +kernel
theorem dX7_dirtiest_137 : decode cX7_dirtiest 137 = .ok (.iaload, 1) := by decide +kernel
theorem dX7_dirtiest_138 : decode cX7_dirtiest 138 = .ok (.irem, 1) := by decide +kernel
theorem dX7_dirtiest_139 : decode cX7_dirtiest 139 = .ok (.goto 4, 3) := by decide +kernel
theorem dX7_dirtiest_142 : decode cX7_dirtiest 142 = .ok (.iload_n 3, 1) := by decide +kernel
theorem dX7_dirtiest_143 : decode cX7_dirtiest 143 = .ok (.ireturn, 1) := by decide +kernel
theorem dX7_soonestOf_0 : decode cX7_soonestOf 0 = .ok (.iload_n 1, 1) := by decide +kernel
theorem dX7_soonestOf_1 : decode cX7_soonestOf 1 = .ok (.iconst 0, 1) := by decide +kernel
theorem dX7_soonestOf_2 : decode cX7_soonestOf 2 = .ok (.iconst 2, 1) := by decide +kernel
theorem dX7_soonestOf_3 : decode cX7_soonestOf 3 = .ok (.invokestatic 316, 3) := by decide +kernel
theorem dX7_soonestOf_6 : decode cX7_soonestOf 6 = .ok (.ifCond .ne 5, 3) := by decide +kernel
theorem dX7_soonestOf_9 : decode cX7_soonestOf 9 = .ok (.iconst (-1), 1) := by decide +kernel
theorem dX7_soonestOf_10 : decode cX7_soonestOf 10 = .ok (.ireturn, 1) := by decide +kernel
theorem dX7_soonestOf_11 : decode cX7_soonestOf 11 = .ok (.iconst (-1), 1) := by decide +kernel
theorem dX7_soonestOf_12 : decode cX7_soonestOf 12 = .ok (.istore_n 2, 1) := by decide +kernel
theorem dX7_soonestOf_13 : decode cX7_soonestOf 13 = .ok (.ldc_w 422, 3) := by decide +kernel
theorem dX7_soonestOf_16 : decode cX7_soonestOf 16 = .ok (.istore_n 3, 1) := by decide +kernel
theorem dX7_soonestOf_17 : decode cX7_soonestOf 17 = .ok (.iconst 0, 1) := by decide +kernel
theorem dX7_soonestOf_18 : decode cX7_soonestOf 18 = .ok (.istore 4, 2) := by decide +kernel
theorem dX7_soonestOf_20 : decode cX7_soonestOf 20 = .ok (.iload 4, 2) := by decide +kernel
theorem dX7_soonestOf_22 : decode cX7_soonestOf 22 = .ok (.iconst 2, 1) := by decide +kernel
theorem dX7_soonestOf_23 : decode cX7_soonestOf 23 = .ok (.aload_n 0, 1) := by decide +kernel
theorem dX7_soonestOf_24 : decode cX7_soonestOf 24 = .ok (.invokevirtual 313, 3) := by decide +kernel
theorem dX7_soonestOf_27 : decode cX7_soonestOf 27 = .ok (.imul, 1) := by decide +kernel
theorem dX7_soonestOf_28 : decode cX7_soonestOf 28 = .ok (.iconst 2, 1) := by decide +kernel
theorem dX7_soonestOf_29 : decode cX7_soonestOf 29 = .ok (.isub, 1) := by decide +kernel
theorem dX7_soonestOf_30 : decode cX7_soonestOf 30 = .ok (.if_icmp .ge 43, 3) := by decide +kernel
theorem dX7_soonestOf_33 : decode cX7_soonestOf 33 = .ok (.aload_n 0, 1) := by decide +kernel
theorem dX7_soonestOf_34 : decode cX7_soonestOf 34 = .ok (.iload 4, 2) := by decide +kernel
theorem dX7_soonestOf_36 : decode cX7_soonestOf 36 = .ok (.iconst 2, 1) := by decide +kernel
theorem dX7_soonestOf_37 : decode cX7_soonestOf 37 = .ok (.idiv, 1) := by decide +kernel
theorem dX7_soonestOf_38 : decode cX7_soonestOf 38 = .ok (.iload 4, 2) := by decide +kernel
theorem dX7_soonestOf_40 : decode cX7_soonestOf 40 = .ok (.iconst 2, 1) := by decide +kernel
theorem dX7_soonestOf_41 : decode cX7_soonestOf 41 = .ok (.irem, 1) := by decide +kernel
theorem dX7_soonestOf_42 : decode cX7_soonestOf 42 = .ok (.invokevirtual 423, 3) := by decide +kernel
theorem dX7_soonestOf_45 : decode cX7_soonestOf 45 = .ok (.istore 5, 2) := by decide +kernel
theorem dX7_soonestOf_47 : decode cX7_soonestOf 47 = .ok (.iload 5, 2) := by decide +kernel
theorem dX7_soonestOf_49 : decode cX7_soonestOf 49 = .ok (.ifCond .lt 18, 3) := by decide +kernel
theorem dX7_soonestOf_52 : decode cX7_soonestOf 52 = .ok (.iload 5, 2) := by decide +kernel
theorem dX7_soonestOf_54 : decode cX7_soonestOf 54 = .ok (.iload_n 3, 1) := by decide +kernel
theorem dX7_soonestOf_55 : decode cX7_soonestOf 55 = .ok (.if_icmp .lt 6, 3) := by decide +kernel
theorem dX7_soonestOf_58 : decode cX7_soonestOf 58 = .ok (.goto 9, 3) := by decide +kernel
theorem dX7_soonestOf_61 : decode cX7_soonestOf 61 = .ok (.iload 4, 2) := by decide +kernel
theorem dX7_soonestOf_63 : decode cX7_soonestOf 63 = .ok (.istore_n 2, 1) := by decide +kernel
theorem dX7_soonestOf_64 : decode cX7_soonestOf 64 = .ok (.iload 5, 2) := by decide +kernel
theorem dX7_soonestOf_66 : decode cX7_soonestOf 66 = .ok (.istore_n 3, 1) := by decide +kernel
theorem dX7_soonestOf_67 : decode cX7_soonestOf 67 = .ok (.iinc 4 1, 3) := by decide +kernel
theorem dX7_soonestOf_70 : decode cX7_soonestOf 70 = .ok (.goto (-50), 3) := by decide +kernel
theorem dX7_soonestOf_73 : decode cX7_soonestOf 73 = .ok (.iload_n 2, 1) := by decide +kernel
theorem dX7_soonestOf_74 : decode cX7_soonestOf 74 = .ok (.ifCond .ge 7, 3) := by decide +kernel
theorem dX7_soonestOf_77 : decode cX7_soonestOf 77 = .ok (.iconst (-1), 1) := by decide +kernel
theorem dX7_soonestOf_78 : decode cX7_soonestOf 78 = .ok (.goto 25, 3) := by decide +kernel
theorem dX7_soonestOf_81 : decode cX7_soonestOf 81 = .ok (.iload_n 1, 1) := by decide +kernel
theorem dX7_soonestOf_82 : decode cX7_soonestOf 82 = .ok (.ifCond .ne 9, 3) := by decide +kernel
theorem dX7_soonestOf_85 : decode cX7_soonestOf 85 = .ok (.iload_n 2, 1) := by decide +kernel
theorem dX7_soonestOf_86 : decode cX7_soonestOf 86 = .ok (.iconst 2, 1) := by decide +kernel
theorem dX7_soonestOf_87 : decode cX7_soonestOf 87 = .ok (.idiv, 1) := by decide +kernel
theorem dX7_soonestOf_88 : decode cX7_soonestOf 88 = .ok (.goto 15, 3) := by decide +kernel
theorem dX7_soonestOf_91 : decode cX7_soonestOf 91 = .ok (.iload_n 1, 1) := by decide +kernel
theorem dX7_soonestOf_92 : decode cX7_soonestOf 92 = .ok (.iconst 1, 1) := by decide +kernel
theorem dX7_soonestOf_93 : decode cX7_soonestOf 93 = .ok (.if_icmp .ne 9, 3) := by decide +kernel
theorem dX7_soonestOf_96 : decode cX7_soonestOf 96 = .ok (.iload_n 2, 1) := by decide +kernel
theorem dX7_soonestOf_97 : decode cX7_soonestOf 97 = .ok (.iconst 2, 1) := by decide +kernel
theorem dX7_soonestOf_98 : decode cX7_soonestOf 98 = .ok (.irem, 1) := by decide +kernel
theorem dX7_soonestOf_99 : decode cX7_soonestOf 99 = .ok (.goto 4, 3) := by decide +kernel
theorem dX7_soonestOf_102 : decode cX7_soonestOf 102 = .ok (.iload_n 3, 1) := by decide +kernel
theorem dX7_soonestOf_103 : decode cX7_soonestOf 103 = .ok (.ireturn, 1) := by decide +kernel
theorem dX7_fullest_0 : decode cX7_fullest 0 = .ok (.iconst (-1), 1) := by decide +kernel
theorem dX7_fullest_1 : decode cX7_fullest 1 = .ok (.istore_n 1, 1) := by decide +kernel
theorem dX7_fullest_2 : decode cX7_fullest 2 = .ok (.iconst (-1), 1) := by decide +kernel
theorem dX7_fullest_3 : decode cX7_fullest 3 = .ok (.istore_n 2, 1) := by decide +kernel
theorem dX7_fullest_4 : decode cX7_fullest 4 = .ok (.iconst 0, 1) := by decide +kernel
theorem dX7_fullest_5 : decode cX7_fullest 5 = .ok (.istore_n 3, 1) := by decide +kernel
theorem dX7_fullest_6 : decode cX7_fullest 6 = .ok (.iload_n 3, 1) := by decide +kernel
theorem dX7_fullest_7 : decode cX7_fullest 7 = .ok (.iconst 1, 1) := by decide +kernel
theorem dX7_fullest_8 : decode cX7_fullest 8 = .ok (.iadd, 1) := by decide +kernel
theorem dX7_fullest_9 : decode cX7_fullest 9 = .ok (.aload_n 0, 1) := by decide +kernel
theorem dX7_fullest_10 : decode cX7_fullest 10 = .ok (.invokevirtual 313, 3) := by decide +kernel
theorem dX7_fullest_13 : decode cX7_fullest 13 = .ok (.if_icmp .ge 38, 3) := by decide +kernel
theorem dX7_fullest_16 : decode cX7_fullest 16 = .ok (.aload_n 0, 1) := by decide +kernel
theorem dX7_fullest_17 : decode cX7_fullest 17 = .ok (.iload_n 3, 1) := by decide +kernel
theorem dX7_fullest_18 : decode cX7_fullest 18 = .ok (.iconst 0, 1) := by decide +kernel
theorem dX7_fullest_19 : decode cX7_fullest 19 = .ok (.invokevirtual 401, 3) := by decide +kernel
theorem dX7_fullest_22 : decode cX7_fullest 22 = .ok (.aload_n 0, 1) := by decide +kernel
theorem dX7_fullest_23 : decode cX7_fullest 23 = .ok (.iload_n 3, 1) := by decide +kernel
theorem dX7_fullest_24 : decode cX7_fullest 24 = .ok (.iconst 1, 1) := by decide +kernel
theorem dX7_fullest_25 : decode cX7_fullest 25 = .ok (.invokevirtual 401, 3) := by decide +kernel
theorem dX7_fullest_28 : decode cX7_fullest 28 = .ok (.iadd, 1) := by decide +kernel
theorem dX7_fullest_29 : decode cX7_fullest 29 = .ok (.istore 4, 2) := by decide +kernel
theorem dX7_fullest_31 : decode cX7_fullest 31 = .ok (.iload 4, 2) := by decide +kernel
theorem dX7_fullest_33 : decode cX7_fullest 33 = .ok (.iload_n 2, 1) := by decide +kernel
theorem dX7_fullest_34 : decode cX7_fullest 34 = .ok (.if_icmp .gt 6, 3) := by decide +kernel
theorem dX7_fullest_37 : decode cX7_fullest 37 = .ok (.goto 8, 3) := by decide +kernel
theorem dX7_fullest_40 : decode cX7_fullest 40 = .ok (.iload_n 3, 1) := by decide +kernel
theorem dX7_fullest_41 : decode cX7_fullest 41 = .ok (.istore_n 1, 1) := by decide +kernel
theorem dX7_fullest_42 : decode cX7_fullest 42 = .ok (.iload 4, 2) := by decide +kernel
theorem dX7_fullest_44 : decode cX7_fullest 44 = .ok (.istore_n 2, 1) := by decide +kernel
theorem dX7_fullest_45 : decode cX7_fullest 45 = .ok (.iinc 3 1, 3) := by decide +kernel
theorem dX7_fullest_48 : decode cX7_fullest 48 = .ok (.goto (-42), 3) := by decide +kernel
theorem dX7_fullest_51 : decode cX7_fullest 51 = .ok (.iload_n 1, 1) := by decide +kernel
theorem dX7_fullest_52 : decode cX7_fullest 52 = .ok (.ireturn, 1) := by decide +kernel
theorem dX7_latestOf_0 : decode cX7_latestOf 0 = .ok (.iload_n 2, 1) := by decide +kernel
theorem dX7_latestOf_1 : decode cX7_latestOf 1 = .ok (.istore_n 3, 1) := by decide +kernel
theorem dX7_latestOf_2 : decode cX7_latestOf 2 = .ok (.iload_n 3, 1) := by decide +kernel
theorem dX7_latestOf_3 : decode cX7_latestOf 3 = .ok (.ifCond .le 22, 3) := by decide +kernel
theorem dX7_latestOf_6 : decode cX7_latestOf 6 = .ok (.aload_n 0, 1) := by decide +kernel
theorem dX7_latestOf_7 : decode cX7_latestOf 7 = .ok (.getfield 76, 3) := by decide +kernel
theorem dX7_latestOf_10 : decode cX7_latestOf 10 = .ok (.bipush 23, 2) := by decide +kernel
theorem dX7_latestOf_12 : decode cX7_latestOf 12 = .ok (.iload_n 3, 1) := by decide +kernel
theorem dX7_latestOf_13 : decode cX7_latestOf 13 = .ok (.iadd, 1) := by decide +kernel
theorem dX7_latestOf_14 : decode cX7_latestOf 14 = .ok (.iaload, 1) := by decide +kernel
theorem dX7_latestOf_15 : decode cX7_latestOf 15 = .ok (.iload_n 1, 1) := by decide +kernel
theorem dX7_latestOf_16 : decode cX7_latestOf 16 = .ok (.if_icmp .eq 9, 3) := by decide +kernel
theorem dX7_latestOf_19 : decode cX7_latestOf 19 = .ok (.iinc 3 (-1), 3) := by decide +kernel
theorem dX7_latestOf_22 : decode cX7_latestOf 22 = .ok (.goto (-20), 3) := by decide +kernel
theorem dX7_latestOf_25 : decode cX7_latestOf 25 = .ok (.iload_n 3, 1) := by decide +kernel
theorem dX7_latestOf_26 : decode cX7_latestOf 26 = .ok (.ireturn, 1) := by decide +kernel
theorem dX7_valueOf_0 : decode cX7_valueOf 0 = .ok (.iload_n 1, 1) := by decide +kernel
theorem dX7_valueOf_1 : decode cX7_valueOf 1 = .ok (.ifCond .ne 7, 3) := by decide +kernel
theorem dX7_valueOf_4 : decode cX7_valueOf 4 = .ok (.iconst (-1), 1) := by decide +kernel
theorem dX7_valueOf_5 : decode cX7_valueOf 5 = .ok (.goto 12, 3) := by decide +kernel
theorem dX7_valueOf_8 : decode cX7_valueOf 8 = .ok (.aload_n 0, 1) := by decide +kernel
theorem dX7_valueOf_9 : decode cX7_valueOf 9 = .ok (.getfield 76, 3) := by decide +kernel
theorem dX7_valueOf_12 : decode cX7_valueOf 12 = .ok (.bipush 64, 2) := by decide +kernel
theorem dX7_valueOf_14 : decode cX7_valueOf 14 = .ok (.iload_n 1, 1) := by decide +kernel
theorem dX7_valueOf_15 : decode cX7_valueOf 15 = .ok (.iadd, 1) := by decide +kernel
theorem dX7_valueOf_16 : decode cX7_valueOf 16 = .ok (.iaload, 1) := by decide +kernel
theorem dX7_valueOf_17 : decode cX7_valueOf 17 = .ok (.ireturn, 1) := by decide +kernel
theorem dX7_isDirty_0 : decode cX7_isDirty 0 = .ok (.aload_n 0, 1) := by decide +kernel
theorem dX7_isDirty_1 : decode cX7_isDirty 1 = .ok (.iload_n 2, 1) := by decide +kernel
theorem dX7_isDirty_2 : decode cX7_isDirty 2 = .ok (.aload_n 0, 1) := by decide +kernel
theorem dX7_isDirty_3 : decode cX7_isDirty 3 = .ok (.getfield 76, 3) := by decide +kernel
theorem dX7_isDirty_6 : decode cX7_isDirty 6 = .ok (.bipush 7, 2) := by decide +kernel
theorem dX7_isDirty_8 : decode cX7_isDirty 8 = .ok (.iload_n 1, 1) := by decide +kernel
theorem dX7_isDirty_9 : decode cX7_isDirty 9 = .ok (.iadd, 1) := by decide +kernel
theorem dX7_isDirty_10 : decode cX7_isDirty 10 = .ok (.iaload, 1) := by decide +kernel
theorem dX7_isDirty_11 : decode cX7_isDirty 11 = .ok (.invokevirtual 426, 3) := by decide +kernel
theorem dX7_isDirty_14 : decode cX7_isDirty 14 = .ok (.aload_n 0, 1) := by decide +kernel
theorem dX7_isDirty_15 : decode cX7_isDirty 15 = .ok (.getfield 76, 3) := by decide +kernel
theorem dX7_isDirty_18 : decode cX7_isDirty 18 = .ok (.bipush 15, 2) := by decide +kernel
theorem dX7_isDirty_20 : decode cX7_isDirty 20 = .ok (.iload_n 1, 1) := by decide +kernel
theorem dX7_isDirty_21 : decode cX7_isDirty 21 = .ok (.iadd, 1) := by decide +kernel
theorem dX7_isDirty_22 : decode cX7_isDirty 22 = .ok (.iaload, 1) := by decide +kernel
theorem dX7_isDirty_23 : decode cX7_isDirty 23 = .ok (.if_icmp .le 7, 3) := by decide +kernel
theorem dX7_isDirty_26 : decode cX7_isDirty 26 = .ok (.iconst 1, 1) := by decide +kernel
theorem dX7_isDirty_27 : decode cX7_isDirty 27 = .ok (.goto 4, 3) := by decide +kernel
theorem dX7_isDirty_30 : decode cX7_isDirty 30 = .ok (.iconst 0, 1) := by decide +kernel
theorem dX7_isDirty_31 : decode cX7_isDirty 31 = .ok (.ireturn, 1) := by decide +kernel
theorem dX7_lazyOf_0 : decode cX7_lazyOf 0 = .ok (.aload_n 0, 1) := by decide +kernel
theorem dX7_lazyOf_1 : decode cX7_lazyOf 1 = .ok (.aload_n 0, 1) := by decide +kernel
theorem dX7_lazyOf_2 : decode cX7_lazyOf 2 = .ok (.iload_n 2, 1) := by decide +kernel
theorem dX7_lazyOf_3 : decode cX7_lazyOf 3 = .ok (.aload_n 0, 1) := by decide +kernel
theorem dX7_lazyOf_4 : decode cX7_lazyOf 4 = .ok (.getfield 76, 3) := by decide +kernel
theorem dX7_lazyOf_7 : decode cX7_lazyOf 7 = .ok (.bipush 15, 2) := by decide +kernel
theorem dX7_lazyOf_9 : decode cX7_lazyOf 9 = .ok (.iload_n 1, 1) := by decide +kernel
theorem dX7_lazyOf_10 : decode cX7_lazyOf 10 = .ok (.iadd, 1) := by decide +kernel
theorem dX7_lazyOf_11 : decode cX7_lazyOf 11 = .ok (.iaload, 1) := by decide +kernel
theorem dX7_lazyOf_12 : decode cX7_lazyOf 12 = .ok (.invokevirtual 426, 3) := by decide +kernel
theorem dX7_lazyOf_15 : decode cX7_lazyOf 15 = .ok (.invokevirtual 429, 3) := by decide +kernel
theorem dX7_lazyOf_18 : decode cX7_lazyOf 18 = .ok (.ireturn, 1) := by decide +kernel
theorem dX7_readOf_0 : decode cX7_readOf 0 = .ok (.aload_n 0, 1) := by decide +kernel
theorem dX7_readOf_1 : decode cX7_readOf 1 = .ok (.iload_n 1, 1) := by decide +kernel
theorem dX7_readOf_2 : decode cX7_readOf 2 = .ok (.iload_n 2, 1) := by decide +kernel
theorem dX7_readOf_3 : decode cX7_readOf 3 = .ok (.invokevirtual 432, 3) := by decide +kernel
theorem dX7_readOf_6 : decode cX7_readOf 6 = .ok (.ifCond .eq 21, 3) := by decide +kernel
theorem dX7_readOf_9 : decode cX7_readOf 9 = .ok (.aload_n 0, 1) := by decide +kernel
theorem dX7_readOf_10 : decode cX7_readOf 10 = .ok (.aload_n 0, 1) := by decide +kernel
theorem dX7_readOf_11 : decode cX7_readOf 11 = .ok (.aload_n 0, 1) := by decide +kernel
theorem dX7_readOf_12 : decode cX7_readOf 12 = .ok (.invokevirtual 313, 3) := by decide +kernel
theorem dX7_readOf_15 : decode cX7_readOf 15 = .ok (.iconst 1, 1) := by decide +kernel
theorem dX7_readOf_16 : decode cX7_readOf 16 = .ok (.isub, 1) := by decide +kernel
theorem dX7_readOf_17 : decode cX7_readOf 17 = .ok (.invokevirtual 310, 3) := by decide +kernel
theorem dX7_readOf_20 : decode cX7_readOf 20 = .ok (.iload_n 2, 1) := by decide +kernel
theorem dX7_readOf_21 : decode cX7_readOf 21 = .ok (.invokevirtual 435, 3) := by decide +kernel
theorem dX7_readOf_24 : decode cX7_readOf 24 = .ok (.goto 9, 3) := by decide +kernel
theorem dX7_readOf_27 : decode cX7_readOf 27 = .ok (.aload_n 0, 1) := by decide +kernel
theorem dX7_readOf_28 : decode cX7_readOf 28 = .ok (.iload_n 1, 1) := by decide +kernel
theorem dX7_readOf_29 : decode cX7_readOf 29 = .ok (.iload_n 2, 1) := by decide +kernel
theorem dX7_readOf_30 : decode cX7_readOf 30 = .ok (.invokevirtual 435, 3) := by decide +kernel
theorem dX7_readOf_33 : decode cX7_readOf 33 = .ok (.ireturn, 1) := by decide +kernel
theorem dX7_read_0 : decode cX7_read 0 = .ok (.aload_n 0, 1) := by decide +kernel
theorem dX7_read_1 : decode cX7_read 1 = .ok (.iload_n 1, 1) := by decide +kernel
theorem dX7_read_2 : decode cX7_read 2 = .ok (.invokevirtual 407, 3) := by decide +kernel
theorem dX7_read_5 : decode cX7_read 5 = .ok (.ifCond .eq 20, 3) := by decide +kernel
theorem dX7_read_8 : decode cX7_read 8 = .ok (.aload_n 0, 1) := by decide +kernel
theorem dX7_read_9 : decode cX7_read 9 = .ok (.iload_n 2, 1) := by decide +kernel
theorem dX7_read_10 : decode cX7_read 10 = .ok (.invokevirtual 438, 3) := by decide +kernel
theorem dX7_read_13 : decode cX7_read 13 = .ok (.ifCond .eq 12, 3) := by decide +kernel
theorem dX7_read_16 : decode cX7_read 16 = .ok (.aload_n 0, 1) := by decide +kernel
theorem dX7_read_17 : decode cX7_read 17 = .ok (.iload_n 1, 1) := by decide +kernel
theorem dX7_read_18 : decode cX7_read 18 = .ok (.iload_n 2, 1) := by decide +kernel
theorem dX7_read_19 : decode cX7_read 19 = .ok (.invokevirtual 441, 3) := by decide +kernel
theorem dX7_read_22 : decode cX7_read 22 = .ok (.goto 5, 3) := by decide +kernel
theorem dX7_read_25 : decode cX7_read 25 = .ok (.bipush (-2), 2) := by decide +kernel
theorem dX7_read_27 : decode cX7_read 27 = .ok (.ireturn, 1) := by decide +kernel
theorem dX7_lazy_0 : decode cX7_lazy 0 = .ok (.aload_n 0, 1) := by decide +kernel
theorem dX7_lazy_1 : decode cX7_lazy 1 = .ok (.iload_n 1, 1) := by decide +kernel
theorem dX7_lazy_2 : decode cX7_lazy 2 = .ok (.invokevirtual 407, 3) := by decide +kernel
theorem dX7_lazy_5 : decode cX7_lazy 5 = .ok (.ifCond .eq 20, 3) := by decide +kernel
theorem dX7_lazy_8 : decode cX7_lazy 8 = .ok (.aload_n 0, 1) := by decide +kernel
theorem dX7_lazy_9 : decode cX7_lazy 9 = .ok (.iload_n 2, 1) := by decide +kernel
theorem dX7_lazy_10 : decode cX7_lazy 10 = .ok (.invokevirtual 438, 3) := by decide +kernel
theorem dX7_lazy_13 : decode cX7_lazy 13 = .ok (.ifCond .eq 12, 3) := by decide +kernel
theorem dX7_lazy_16 : decode cX7_lazy 16 = .ok (.aload_n 0, 1) := by decide +kernel
theorem dX7_lazy_17 : decode cX7_lazy 17 = .ok (.iload_n 1, 1) := by decide +kernel
theorem dX7_lazy_18 : decode cX7_lazy 18 = .ok (.iload_n 2, 1) := by decide +kernel
theorem dX7_lazy_19 : decode cX7_lazy 19 = .ok (.invokevirtual 435, 3) := by decide +kernel
theorem dX7_lazy_22 : decode cX7_lazy 22 = .ok (.goto 5, 3) := by decide +kernel
theorem dX7_lazy_25 : decode cX7_lazy 25 = .ok (.bipush (-2), 2) := by decide +kernel
theorem dX7_lazy_27 : decode cX7_lazy 27 = .ok (.ireturn, 1) := by decide +kernel
theorem dX7_askers_0 : decode cX7_askers 0 = .ok (.aload_n 0, 1) := by decide +kernel
theorem dX7_askers_1 : decode cX7_askers 1 = .ok (.iload_n 1, 1) := by decide +kernel
theorem dX7_askers_2 : decode cX7_askers 2 = .ok (.invokevirtual 438, 3) := by decide +kernel
theorem dX7_askers_5 : decode cX7_askers 5 = .ok (.ifCond .ne 5, 3) := by decide +kernel
theorem dX7_askers_8 : decode cX7_askers 8 = .ok (.iconst (-1), 1) := by decide +kernel
theorem dX7_askers_9 : decode cX7_askers 9 = .ok (.ireturn, 1) := by decide +kernel
theorem dX7_askers_10 : decode cX7_askers 10 = .ok (.iconst 0, 1) := by decide +kernel
theorem dX7_askers_11 : decode cX7_askers 11 = .ok (.istore_n 2, 1) := by decide +kernel
theorem dX7_askers_12 : decode cX7_askers 12 = .ok (.iconst 0, 1) := by decide +kernel
theorem dX7_askers_13 : decode cX7_askers 13 = .ok (.istore_n 3, 1) := by decide +kernel
theorem dX7_askers_14 : decode cX7_askers 14 = .ok (.iload_n 3, 1) := by decide +kernel
theorem dX7_askers_15 : decode cX7_askers 15 = .ok (.aload_n 0, 1) := by decide +kernel
theorem dX7_askers_16 : decode cX7_askers 16 = .ok (.invokevirtual 313, 3) := by decide +kernel
theorem dX7_askers_19 : decode cX7_askers 19 = .ok (.if_icmp .ge 32, 3) := by decide +kernel
theorem dX7_askers_22 : decode cX7_askers 22 = .ok (.aload_n 0, 1) := by decide +kernel
theorem dX7_askers_23 : decode cX7_askers 23 = .ok (.aload_n 0, 1) := by decide +kernel
theorem dX7_askers_24 : decode cX7_askers 24 = .ok (.iload_n 3, 1) := by decide +kernel
theorem dX7_askers_25 : decode cX7_askers 25 = .ok (.invokevirtual 310, 3) := by decide +kernel
theorem dX7_askers_28 : decode cX7_askers 28 = .ok (.iload_n 1, 1) := by decide +kernel
theorem dX7_askers_29 : decode cX7_askers 29 = .ok (.invokevirtual 432, 3) := by decide +kernel
theorem dX7_askers_32 : decode cX7_askers 32 = .ok (.ifCond .eq 13, 3) := by decide +kernel
theorem dX7_askers_35 : decode cX7_askers 35 = .ok (.iload_n 2, 1) := by decide +kernel
theorem dX7_askers_36 : decode cX7_askers 36 = .ok (.iconst 1, 1) := by decide +kernel
theorem dX7_askers_37 : decode cX7_askers 37 = .ok (.aload_n 0, 1) := by decide +kernel
theorem dX7_askers_38 : decode cX7_askers 38 = .ok (.iload_n 3, 1) := by decide +kernel
theorem dX7_askers_39 : decode cX7_askers 39 = .ok (.invokevirtual 310, 3) := by decide +kernel
theorem dX7_askers_42 : decode cX7_askers 42 = .ok (.ishl, 1) := by decide +kernel
theorem dX7_askers_43 : decode cX7_askers 43 = .ok (.ior, 1) := by decide +kernel
theorem dX7_askers_44 : decode cX7_askers 44 = .ok (.istore_n 2, 1) := by decide +kernel
theorem dX7_askers_45 : decode cX7_askers 45 = .ok (.iinc 3 1, 3) := by decide +kernel
theorem dX7_askers_48 : decode cX7_askers 48 = .ok (.goto (-34), 3) := by decide +kernel
theorem dX7_askers_51 : decode cX7_askers 51 = .ok (.iload_n 2, 1) := by decide +kernel
theorem dX7_askers_52 : decode cX7_askers 52 = .ok (.ireturn, 1) := by decide +kernel
theorem dX7_stale_0 : decode cX7_stale 0 = .ok (.aload_n 0, 1) := by decide +kernel
theorem dX7_stale_1 : decode cX7_stale 1 = .ok (.iload_n 1, 1) := by decide +kernel
theorem dX7_stale_2 : decode cX7_stale 2 = .ok (.invokevirtual 438, 3) := by decide +kernel
theorem dX7_stale_5 : decode cX7_stale 5 = .ok (.ifCond .ne 5, 3) := by decide +kernel
theorem dX7_stale_8 : decode cX7_stale 8 = .ok (.iconst (-1), 1) := by decide +kernel
theorem dX7_stale_9 : decode cX7_stale 9 = .ok (.ireturn, 1) := by decide +kernel
theorem dX7_stale_10 : decode cX7_stale 10 = .ok (.iconst 0, 1) := by decide +kernel
theorem dX7_stale_11 : decode cX7_stale 11 = .ok (.istore_n 2, 1) := by decide +kernel
theorem dX7_stale_12 : decode cX7_stale 12 = .ok (.iconst 0, 1) := by decide +kernel
theorem dX7_stale_13 : decode cX7_stale 13 = .ok (.istore_n 3, 1) := by decide +kernel
theorem dX7_stale_14 : decode cX7_stale 14 = .ok (.iload_n 3, 1) := by decide +kernel
theorem dX7_stale_15 : decode cX7_stale 15 = .ok (.aload_n 0, 1) := by decide +kernel
theorem dX7_stale_16 : decode cX7_stale 16 = .ok (.invokevirtual 313, 3) := by decide +kernel
theorem dX7_stale_19 : decode cX7_stale 19 = .ok (.if_icmp .ge 47, 3) := by decide +kernel
theorem dX7_stale_22 : decode cX7_stale 22 = .ok (.aload_n 0, 1) := by decide +kernel
theorem dX7_stale_23 : decode cX7_stale 23 = .ok (.aload_n 0, 1) := by decide +kernel
theorem dX7_stale_24 : decode cX7_stale 24 = .ok (.iload_n 3, 1) := by decide +kernel
theorem dX7_stale_25 : decode cX7_stale 25 = .ok (.invokevirtual 310, 3) := by decide +kernel
theorem dX7_stale_28 : decode cX7_stale 28 = .ok (.iload_n 1, 1) := by decide +kernel
theorem dX7_stale_29 : decode cX7_stale 29 = .ok (.invokevirtual 435, 3) := by decide +kernel
theorem dX7_stale_32 : decode cX7_stale 32 = .ok (.aload_n 0, 1) := by decide +kernel
theorem dX7_stale_33 : decode cX7_stale 33 = .ok (.aload_n 0, 1) := by decide +kernel
theorem dX7_stale_34 : decode cX7_stale 34 = .ok (.aload_n 0, 1) := by decide +kernel
theorem dX7_stale_35 : decode cX7_stale 35 = .ok (.invokevirtual 313, 3) := by decide +kernel
theorem dX7_stale_38 : decode cX7_stale 38 = .ok (.iconst 1, 1) := by decide +kernel
theorem dX7_stale_39 : decode cX7_stale 39 = .ok (.isub, 1) := by decide +kernel
theorem dX7_stale_40 : decode cX7_stale 40 = .ok (.invokevirtual 310, 3) := by decide +kernel
theorem dX7_stale_43 : decode cX7_stale 43 = .ok (.iload_n 1, 1) := by decide +kernel
theorem dX7_stale_44 : decode cX7_stale 44 = .ok (.invokevirtual 441, 3) := by decide +kernel
theorem dX7_stale_47 : decode cX7_stale 47 = .ok (.if_icmp .eq 13, 3) := by decide +kernel
theorem dX7_stale_50 : decode cX7_stale 50 = .ok (.iload_n 2, 1) := by decide +kernel
theorem dX7_stale_51 : decode cX7_stale 51 = .ok (.iconst 1, 1) := by decide +kernel
theorem dX7_stale_52 : decode cX7_stale 52 = .ok (.aload_n 0, 1) := by decide +kernel
theorem dX7_stale_53 : decode cX7_stale 53 = .ok (.iload_n 3, 1) := by decide +kernel
theorem dX7_stale_54 : decode cX7_stale 54 = .ok (.invokevirtual 310, 3) := by decide +kernel
theorem dX7_stale_57 : decode cX7_stale 57 = .ok (.ishl, 1) := by decide +kernel
theorem dX7_stale_58 : decode cX7_stale 58 = .ok (.ior, 1) := by decide +kernel
theorem dX7_stale_59 : decode cX7_stale 59 = .ok (.istore_n 2, 1) := by decide +kernel
theorem dX7_stale_60 : decode cX7_stale 60 = .ok (.iinc 3 1, 3) := by decide +kernel
theorem dX7_stale_63 : decode cX7_stale 63 = .ok (.goto (-49), 3) := by decide +kernel
theorem dX7_stale_66 : decode cX7_stale 66 = .ok (.iload_n 2, 1) := by decide +kernel
theorem dX7_stale_67 : decode cX7_stale 67 = .ok (.ireturn, 1) := by decide +kernel
theorem dX7_nthVersion_0 : decode cX7_nthVersion 0 = .ok (.aload_n 0, 1) := by decide +kernel
theorem dX7_nthVersion_1 : decode cX7_nthVersion 1 = .ok (.iload_n 2, 1) := by decide +kernel
theorem dX7_nthVersion_2 : decode cX7_nthVersion 2 = .ok (.aload_n 0, 1) := by decide +kernel
theorem dX7_nthVersion_3 : decode cX7_nthVersion 3 = .ok (.getfield 76, 3) := by decide +kernel
theorem dX7_nthVersion_6 : decode cX7_nthVersion 6 = .ok (.bipush 15, 2) := by decide +kernel
theorem dX7_nthVersion_8 : decode cX7_nthVersion 8 = .ok (.iload_n 1, 1) := by decide +kernel
theorem dX7_nthVersion_9 : decode cX7_nthVersion 9 = .ok (.iadd, 1) := by decide +kernel
theorem dX7_nthVersion_10 : decode cX7_nthVersion 10 = .ok (.iaload, 1) := by decide +kernel
theorem dX7_nthVersion_11 : decode cX7_nthVersion 11 = .ok (.invokevirtual 426, 3) := by decide +kernel
theorem dX7_nthVersion_14 : decode cX7_nthVersion 14 = .ok (.istore 4, 2) := by decide +kernel
theorem dX7_nthVersion_16 : decode cX7_nthVersion 16 = .ok (.iload 4, 2) := by decide +kernel
theorem dX7_nthVersion_18 : decode cX7_nthVersion 18 = .ok (.ifCond .le 7, 3) := by decide +kernel
theorem dX7_nthVersion_21 : decode cX7_nthVersion 21 = .ok (.iconst 1, 1) := by decide +kernel
theorem dX7_nthVersion_22 : decode cX7_nthVersion 22 = .ok (.goto 4, 3) := by decide +kernel
theorem dX7_nthVersion_25 : decode cX7_nthVersion 25 = .ok (.iconst 0, 1) := by decide +kernel
theorem dX7_nthVersion_26 : decode cX7_nthVersion 26 = .ok (.istore 5, 2) := by decide +kernel
theorem dX7_nthVersion_28 : decode cX7_nthVersion 28 = .ok (.iload_n 3, 1) := by decide +kernel
theorem dX7_nthVersion_29 : decode cX7_nthVersion 29 = .ok (.ifCond .ne 11, 3) := by decide +kernel
theorem dX7_nthVersion_32 : decode cX7_nthVersion 32 = .ok (.iload 4, 2) := by decide +kernel
theorem dX7_nthVersion_34 : decode cX7_nthVersion 34 = .ok (.ifCond .le 6, 3) := by decide +kernel
theorem dX7_nthVersion_37 : decode cX7_nthVersion 37 = .ok (.iload 4, 2) := by decide +kernel
theorem dX7_nthVersion_39 : decode cX7_nthVersion 39 = .ok (.ireturn, 1) := by decide +kernel
theorem dX7_nthVersion_40 : decode cX7_nthVersion 40 = .ok (.aload_n 0, 1) := by decide +kernel
theorem dX7_nthVersion_41 : decode cX7_nthVersion 41 = .ok (.getfield 76, 3) := by decide +kernel
theorem dX7_nthVersion_44 : decode cX7_nthVersion 44 = .ok (.bipush 15, 2) := by decide +kernel
theorem dX7_nthVersion_46 : decode cX7_nthVersion 46 = .ok (.iload_n 1, 1) := by decide +kernel
theorem dX7_nthVersion_47 : decode cX7_nthVersion 47 = .ok (.iadd, 1) := by decide +kernel
theorem dX7_nthVersion_48 : decode cX7_nthVersion 48 = .ok (.iaload, 1) := by decide +kernel
theorem dX7_nthVersion_49 : decode cX7_nthVersion 49 = .ok (.iconst 1, 1) := by decide +kernel
theorem dX7_nthVersion_50 : decode cX7_nthVersion 50 = .ok (.iadd, 1) := by decide +kernel
theorem dX7_nthVersion_51 : decode cX7_nthVersion 51 = .ok (.istore 6, 2) := by decide +kernel
theorem dX7_nthVersion_53 : decode cX7_nthVersion 53 = .ok (.iload 6, 2) := by decide +kernel
theorem dX7_nthVersion_55 : decode cX7_nthVersion 55 = .ok (.aload_n 0, 1) := by decide +kernel
theorem dX7_nthVersion_56 : decode cX7_nthVersion 56 = .ok (.getfield 76, 3) := by decide +kernel
theorem dX7_nthVersion_59 : decode cX7_nthVersion 59 = .ok (.bipush 7, 2) := by decide +kernel
theorem dX7_nthVersion_61 : decode cX7_nthVersion 61 = .ok (.iload_n 1, 1) := by decide +kernel
theorem dX7_nthVersion_62 : decode cX7_nthVersion 62 = .ok (.iadd, 1) := by decide +kernel
theorem dX7_nthVersion_63 : decode cX7_nthVersion 63 = .ok (.iaload, 1) := by decide +kernel
theorem dX7_nthVersion_64 : decode cX7_nthVersion 64 = .ok (.if_icmp .gt 38, 3) := by decide +kernel
theorem dX7_nthVersion_67 : decode cX7_nthVersion 67 = .ok (.aload_n 0, 1) := by decide +kernel
theorem dX7_nthVersion_68 : decode cX7_nthVersion 68 = .ok (.getfield 76, 3) := by decide +kernel
theorem dX7_nthVersion_71 : decode cX7_nthVersion 71 = .ok (.bipush 23, 2) := by decide +kernel
theorem dX7_nthVersion_73 : decode cX7_nthVersion 73 = .ok (.iload 6, 2) := by decide +kernel
theorem dX7_nthVersion_75 : decode cX7_nthVersion 75 = .ok (.iadd, 1) := by decide +kernel
theorem dX7_nthVersion_76 : decode cX7_nthVersion 76 = .ok (.iaload, 1) := by decide +kernel
theorem dX7_nthVersion_77 : decode cX7_nthVersion 77 = .ok (.iload_n 2, 1) := by decide +kernel
theorem dX7_nthVersion_78 : decode cX7_nthVersion 78 = .ok (.if_icmp .eq 6, 3) := by decide +kernel
theorem dX7_nthVersion_81 : decode cX7_nthVersion 81 = .ok (.goto 15, 3) := by decide +kernel
theorem dX7_nthVersion_84 : decode cX7_nthVersion 84 = .ok (.iload 5, 2) := by decide +kernel
theorem dX7_nthVersion_86 : decode cX7_nthVersion 86 = .ok (.iload_n 3, 1) := by decide +kernel
theorem dX7_nthVersion_87 : decode cX7_nthVersion 87 = .ok (.if_icmp .ne 6, 3) := by decide +kernel
theorem dX7_nthVersion_90 : decode cX7_nthVersion 90 = .ok (.iload 6, 2) := by decide +kernel
theorem dX7_nthVersion_92 : decode cX7_nthVersion 92 = .ok (.ireturn, 1) := by decide +kernel
theorem dX7_nthVersion_93 : decode cX7_nthVersion 93 = .ok (.iinc 5 1, 3) := by decide +kernel
theorem dX7_nthVersion_96 : decode cX7_nthVersion 96 = .ok (.iinc 6 1, 3) := by decide +kernel
theorem dX7_nthVersion_99 : decode cX7_nthVersion 99 = .ok (.goto (-46), 3) := by decide +kernel
theorem dX7_nthVersion_102 : decode cX7_nthVersion 102 = .ok (.iload_n 3, 1) := by decide +kernel
theorem dX7_nthVersion_103 : decode cX7_nthVersion 103 = .ok (.ifCond .ge 8, 3) := by decide +kernel
theorem dX7_nthVersion_106 : decode cX7_nthVersion 106 = .ok (.iload 5, 2) := by decide +kernel
theorem dX7_nthVersion_108 : decode cX7_nthVersion 108 = .ok (.goto 4, 3) := by decide +kernel
theorem dX7_nthVersion_111 : decode cX7_nthVersion 111 = .ok (.iconst (-1), 1) := by decide +kernel
theorem dX7_nthVersion_112 : decode cX7_nthVersion 112 = .ok (.ireturn, 1) := by decide +kernel
theorem dX7_versions_0 : decode cX7_versions 0 = .ok (.aload_n 0, 1) := by decide +kernel
theorem dX7_versions_1 : decode cX7_versions 1 = .ok (.iload_n 1, 1) := by decide +kernel
theorem dX7_versions_2 : decode cX7_versions 2 = .ok (.invokevirtual 407, 3) := by decide +kernel
theorem dX7_versions_5 : decode cX7_versions 5 = .ok (.ifCond .eq 21, 3) := by decide +kernel
theorem dX7_versions_8 : decode cX7_versions 8 = .ok (.aload_n 0, 1) := by decide +kernel
theorem dX7_versions_9 : decode cX7_versions 9 = .ok (.iload_n 2, 1) := by decide +kernel
theorem dX7_versions_10 : decode cX7_versions 10 = .ok (.invokevirtual 438, 3) := by decide +kernel
theorem dX7_versions_13 : decode cX7_versions 13 = .ok (.ifCond .eq 13, 3) := by decide +kernel
theorem dX7_versions_16 : decode cX7_versions 16 = .ok (.aload_n 0, 1) := by decide +kernel
theorem dX7_versions_17 : decode cX7_versions 17 = .ok (.iload_n 1, 1) := by decide +kernel
theorem dX7_versions_18 : decode cX7_versions 18 = .ok (.iload_n 2, 1) := by decide +kernel
theorem dX7_versions_19 : decode cX7_versions 19 = .ok (.iconst (-1), 1) := by decide +kernel
theorem dX7_versions_20 : decode cX7_versions 20 = .ok (.invokevirtual 419, 3) := by decide +kernel
theorem dX7_versions_23 : decode cX7_versions 23 = .ok (.goto 4, 3) := by decide +kernel
theorem dX7_versions_26 : decode cX7_versions 26 = .ok (.iconst (-1), 1) := by decide +kernel
theorem dX7_versions_27 : decode cX7_versions 27 = .ok (.ireturn, 1) := by decide +kernel
theorem dX7_version_0 : decode cX7_version 0 = .ok (.aload_n 0, 1) := by decide +kernel
theorem dX7_version_1 : decode cX7_version 1 = .ok (.iload_n 1, 1) := by decide +kernel
theorem dX7_version_2 : decode cX7_version 2 = .ok (.invokevirtual 407, 3) := by decide +kernel
theorem dX7_version_5 : decode cX7_version 5 = .ok (.ifCond .eq 25, 3) := by decide +kernel
theorem dX7_version_8 : decode cX7_version 8 = .ok (.aload_n 0, 1) := by decide +kernel
theorem dX7_version_9 : decode cX7_version 9 = .ok (.iload_n 2, 1) := by decide +kernel
theorem dX7_version_10 : decode cX7_version 10 = .ok (.invokevirtual 438, 3) := by decide +kernel
theorem dX7_version_13 : decode cX7_version 13 = .ok (.ifCond .eq 17, 3) := by decide +kernel
theorem dX7_version_16 : decode cX7_version 16 = .ok (.iload_n 3, 1) := by decide +kernel
theorem dX7_version_17 : decode cX7_version 17 = .ok (.ifCond .lt 13, 3) := by decide +kernel
theorem dX7_version_20 : decode cX7_version 20 = .ok (.aload_n 0, 1) := by decide +kernel
theorem dX7_version_21 : decode cX7_version 21 = .ok (.iload_n 1, 1) := by decide +kernel
theorem dX7_version_22 : decode cX7_version 22 = .ok (.iload_n 2, 1) := by decide +kernel
theorem dX7_version_23 : decode cX7_version 23 = .ok (.iload_n 3, 1) := by decide +kernel
theorem dX7_version_24 : decode cX7_version 24 = .ok (.invokevirtual 419, 3) := by decide +kernel
theorem dX7_version_27 : decode cX7_version 27 = .ok (.goto 4, 3) := by decide +kernel
theorem dX7_version_30 : decode cX7_version 30 = .ok (.iconst (-1), 1) := by decide +kernel
theorem dX7_version_31 : decode cX7_version 31 = .ok (.ireturn, 1) := by decide +kernel
theorem dX7_latest_0 : decode cX7_latest 0 = .ok (.aload_n 0, 1) := by decide +kernel
theorem dX7_latest_1 : decode cX7_latest 1 = .ok (.iload_n 1, 1) := by decide +kernel
theorem dX7_latest_2 : decode cX7_latest 2 = .ok (.invokevirtual 438, 3) := by decide +kernel
theorem dX7_latest_5 : decode cX7_latest 5 = .ok (.ifCond .eq 23, 3) := by decide +kernel
theorem dX7_latest_8 : decode cX7_latest 8 = .ok (.aload_n 0, 1) := by decide +kernel
theorem dX7_latest_9 : decode cX7_latest 9 = .ok (.invokevirtual 313, 3) := by decide +kernel
theorem dX7_latest_12 : decode cX7_latest 12 = .ok (.ifCond .le 16, 3) := by decide +kernel
theorem dX7_latest_15 : decode cX7_latest 15 = .ok (.aload_n 0, 1) := by decide +kernel
theorem dX7_latest_16 : decode cX7_latest 16 = .ok (.iload_n 1, 1) := by decide +kernel
theorem dX7_latest_17 : decode cX7_latest 17 = .ok (.aload_n 0, 1) := by decide +kernel
theorem dX7_latest_18 : decode cX7_latest 18 = .ok (.iconst 0, 1) := by decide +kernel
theorem dX7_latest_19 : decode cX7_latest 19 = .ok (.invokevirtual 354, 3) := by decide +kernel
theorem dX7_latest_22 : decode cX7_latest 22 = .ok (.invokevirtual 426, 3) := by decide +kernel
theorem dX7_latest_25 : decode cX7_latest 25 = .ok (.goto 4, 3) := by decide +kernel
theorem dX7_latest_28 : decode cX7_latest 28 = .ok (.iconst (-1), 1) := by decide +kernel
theorem dX7_latest_29 : decode cX7_latest 29 = .ok (.ireturn, 1) := by decide +kernel
theorem dX7_keepAct_0 : decode cX7_keepAct 0 = .ok (.aload_n 0, 1) := by decide +kernel
theorem dX7_keepAct_1 : decode cX7_keepAct 1 = .ok (.getfield 329, 3) := by decide +kernel
theorem dX7_keepAct_4 : decode cX7_keepAct 4 = .ok (.bipush 40, 2) := by decide +kernel
theorem dX7_keepAct_6 : decode cX7_keepAct 6 = .ok (.if_icmp .ne 44, 3) := by decide +kernel
theorem dX7_keepAct_9 : decode cX7_keepAct 9 = .ok (.iconst 0, 1) := by decide +kernel
theorem dX7_keepAct_10 : decode cX7_keepAct 10 = .ok (.istore_n 1, 1) := by decide +kernel
theorem dX7_keepAct_11 : decode cX7_keepAct 11 = .ok (.iload_n 1, 1) := by decide +kernel
theorem dX7_keepAct_12 : decode cX7_keepAct 12 = .ok (.sipush 20800, 3) := by decide +kernel
theorem dX7_keepAct_15 : decode cX7_keepAct 15 = .ok (.if_icmp .ge 25, 3) := by decide +kernel
theorem dX7_keepAct_18 : decode cX7_keepAct 18 = .ok (.aload_n 0, 1) := by decide +kernel
theorem dX7_keepAct_19 : decode cX7_keepAct 19 = .ok (.getfield 82, 3) := by decide +kernel
theorem dX7_keepAct_22 : decode cX7_keepAct 22 = .ok (.iload_n 1, 1) := by decide +kernel
theorem dX7_keepAct_23 : decode cX7_keepAct 23 = .ok (.aload_n 0, 1) := by decide +kernel
theorem dX7_keepAct_24 : decode cX7_keepAct 24 = .ok (.getfield 82, 3) := by decide +kernel
theorem dX7_keepAct_27 : decode cX7_keepAct 27 = .ok (.iload_n 1, 1) := by decide +kernel
theorem dX7_keepAct_28 : decode cX7_keepAct 28 = .ok (.sipush 520, 3) := by decide +kernel
theorem dX7_keepAct_31 : decode cX7_keepAct 31 = .ok (.iadd, 1) := by decide +kernel
theorem dX7_keepAct_32 : decode cX7_keepAct 32 = .ok (.iaload, 1) := by decide +kernel
theorem dX7_keepAct_33 : decode cX7_keepAct 33 = .ok (.iastore, 1) := by decide +kernel
theorem dX7_keepAct_34 : decode cX7_keepAct 34 = .ok (.iinc 1 1, 3) := by decide +kernel
theorem dX7_keepAct_37 : decode cX7_keepAct 37 = .ok (.goto (-26), 3) := by decide +kernel
theorem dX7_keepAct_40 : decode cX7_keepAct 40 = .ok (.aload_n 0, 1) := by decide +kernel
theorem dX7_keepAct_41 : decode cX7_keepAct 41 = .ok (.dup, 1) := by decide +kernel
theorem dX7_keepAct_42 : decode cX7_keepAct 42 = .ok (.getfield 329, 3) := by decide +kernel
theorem dX7_keepAct_45 : decode cX7_keepAct 45 = .ok (.iconst 1, 1) := by decide +kernel
theorem dX7_keepAct_46 : decode cX7_keepAct 46 = .ok (.isub, 1) := by decide +kernel
theorem dX7_keepAct_47 : decode cX7_keepAct 47 = .ok (.putfield 329, 3) := by decide +kernel
theorem dX7_keepAct_50 : decode cX7_keepAct 50 = .ok (.iconst 0, 1) := by decide +kernel
theorem dX7_keepAct_51 : decode cX7_keepAct 51 = .ok (.istore_n 1, 1) := by decide +kernel
theorem dX7_keepAct_52 : decode cX7_keepAct 52 = .ok (.iload_n 1, 1) := by decide +kernel
theorem dX7_keepAct_53 : decode cX7_keepAct 53 = .ok (.sipush 520, 3) := by decide +kernel
theorem dX7_keepAct_56 : decode cX7_keepAct 56 = .ok (.if_icmp .ge 30, 3) := by decide +kernel
theorem dX7_keepAct_59 : decode cX7_keepAct 59 = .ok (.aload_n 0, 1) := by decide +kernel
theorem dX7_keepAct_60 : decode cX7_keepAct 60 = .ok (.getfield 82, 3) := by decide +kernel
theorem dX7_keepAct_63 : decode cX7_keepAct 63 = .ok (.sipush 520, 3) := by decide +kernel
theorem dX7_keepAct_66 : decode cX7_keepAct 66 = .ok (.aload_n 0, 1) := by decide +kernel
theorem dX7_keepAct_67 : decode cX7_keepAct 67 = .ok (.getfield 329, 3) := by decide +kernel
theorem dX7_keepAct_70 : decode cX7_keepAct 70 = .ok (.imul, 1) := by decide +kernel
theorem dX7_keepAct_71 : decode cX7_keepAct 71 = .ok (.iload_n 1, 1) := by decide +kernel
theorem dX7_keepAct_72 : decode cX7_keepAct 72 = .ok (.iadd, 1) := by decide +kernel
theorem dX7_keepAct_73 : decode cX7_keepAct 73 = .ok (.aload_n 0, 1) := by decide +kernel
theorem dX7_keepAct_74 : decode cX7_keepAct 74 = .ok (.getfield 76, 3) := by decide +kernel
theorem dX7_keepAct_77 : decode cX7_keepAct 77 = .ok (.iload_n 1, 1) := by decide +kernel
theorem dX7_keepAct_78 : decode cX7_keepAct 78 = .ok (.iaload, 1) := by decide +kernel
theorem dX7_keepAct_79 : decode cX7_keepAct 79 = .ok (.iastore, 1) := by decide +kernel
theorem dX7_keepAct_80 : decode cX7_keepAct 80 = .ok (.iinc 1 1, 3) := by decide +kernel
theorem dX7_keepAct_83 : decode cX7_keepAct 83 = .ok (.goto (-31), 3) := by decide +kernel
theorem dX7_keepAct_86 : decode cX7_keepAct 86 = .ok (.aload_n 0, 1) := by decide +kernel
theorem dX7_keepAct_87 : decode cX7_keepAct 87 = .ok (.dup, 1) := by decide +kernel
theorem dX7_keepAct_88 : decode cX7_keepAct 88 = .ok (.getfield 329, 3) := by decide +kernel
theorem dX7_keepAct_91 : decode cX7_keepAct 91 = .ok (.iconst 1, 1) := by decide +kernel
theorem dX7_keepAct_92 : decode cX7_keepAct 92 = .ok (.iadd, 1) := by decide +kernel
theorem dX7_keepAct_93 : decode cX7_keepAct 93 = .ok (.putfield 329, 3) := by decide +kernel
theorem dX7_keepAct_96 : decode cX7_keepAct 96 = .ok (.aload_n 0, 1) := by decide +kernel
theorem dX7_keepAct_97 : decode cX7_keepAct 97 = .ok (.iconst 0, 1) := by decide +kernel
theorem dX7_keepAct_98 : decode cX7_keepAct 98 = .ok (.putfield 332, 3) := by decide +kernel
theorem dX7_keepAct_101 : decode cX7_keepAct 101 = .ok (.return_, 1) := by decide +kernel
theorem dX7_swapAll_0 : decode cX7_swapAll 0 = .ok (.iconst 0, 1) := by decide +kernel
theorem dX7_swapAll_1 : decode cX7_swapAll 1 = .ok (.istore_n 1, 1) := by decide +kernel
theorem dX7_swapAll_2 : decode cX7_swapAll 2 = .ok (.iload_n 1, 1) := by decide +kernel
theorem dX7_swapAll_3 : decode cX7_swapAll 3 = .ok (.sipush 520, 3) := by decide +kernel
theorem dX7_swapAll_6 : decode cX7_swapAll 6 = .ok (.if_icmp .ge 53, 3) := by decide +kernel
theorem dX7_swapAll_9 : decode cX7_swapAll 9 = .ok (.aload_n 0, 1) := by decide +kernel
theorem dX7_swapAll_10 : decode cX7_swapAll 10 = .ok (.getfield 82, 3) := by decide +kernel
theorem dX7_swapAll_13 : decode cX7_swapAll 13 = .ok (.sipush 520, 3) := by decide +kernel
theorem dX7_swapAll_16 : decode cX7_swapAll 16 = .ok (.aload_n 0, 1) := by decide +kernel
theorem dX7_swapAll_17 : decode cX7_swapAll 17 = .ok (.getfield 329, 3) := by decide +kernel
theorem dX7_swapAll_20 : decode cX7_swapAll 20 = .ok (.imul, 1) := by decide +kernel
theorem dX7_swapAll_21 : decode cX7_swapAll 21 = .ok (.iload_n 1, 1) := by decide +kernel
theorem dX7_swapAll_22 : decode cX7_swapAll 22 = .ok (.iadd, 1) := by decide +kernel
theorem dX7_swapAll_23 : decode cX7_swapAll 23 = .ok (.iaload, 1) := by decide +kernel
theorem dX7_swapAll_24 : decode cX7_swapAll 24 = .ok (.istore_n 2, 1) := by decide +kernel
theorem dX7_swapAll_25 : decode cX7_swapAll 25 = .ok (.aload_n 0, 1) := by decide +kernel
theorem dX7_swapAll_26 : decode cX7_swapAll 26 = .ok (.getfield 82, 3) := by decide +kernel
theorem dX7_swapAll_29 : decode cX7_swapAll 29 = .ok (.sipush 520, 3) := by decide +kernel
theorem dX7_swapAll_32 : decode cX7_swapAll 32 = .ok (.aload_n 0, 1) := by decide +kernel
theorem dX7_swapAll_33 : decode cX7_swapAll 33 = .ok (.getfield 329, 3) := by decide +kernel
theorem dX7_swapAll_36 : decode cX7_swapAll 36 = .ok (.imul, 1) := by decide +kernel
theorem dX7_swapAll_37 : decode cX7_swapAll 37 = .ok (.iload_n 1, 1) := by decide +kernel
theorem dX7_swapAll_38 : decode cX7_swapAll 38 = .ok (.iadd, 1) := by decide +kernel
theorem dX7_swapAll_39 : decode cX7_swapAll 39 = .ok (.aload_n 0, 1) := by decide +kernel
theorem dX7_swapAll_40 : decode cX7_swapAll 40 = .ok (.getfield 76, 3) := by decide +kernel
theorem dX7_swapAll_43 : decode cX7_swapAll 43 = .ok (.iload_n 1, 1) := by decide +kernel
theorem dX7_swapAll_44 : decode cX7_swapAll 44 = .ok (.iaload, 1) := by decide +kernel
theorem dX7_swapAll_45 : decode cX7_swapAll 45 = .ok (.iastore, 1) := by decide +kernel
theorem dX7_swapAll_46 : decode cX7_swapAll 46 = .ok (.aload_n 0, 1) := by decide +kernel
theorem dX7_swapAll_47 : decode cX7_swapAll 47 = .ok (.getfield 76, 3) := by decide +kernel
theorem dX7_swapAll_50 : decode cX7_swapAll 50 = .ok (.iload_n 1, 1) := by decide +kernel
theorem dX7_swapAll_51 : decode cX7_swapAll 51 = .ok (.iload_n 2, 1) := by decide +kernel
theorem dX7_swapAll_52 : decode cX7_swapAll 52 = .ok (.iastore, 1) := by decide +kernel
theorem dX7_swapAll_53 : decode cX7_swapAll 53 = .ok (.iinc 1 1, 3) := by decide +kernel
theorem dX7_swapAll_56 : decode cX7_swapAll 56 = .ok (.goto (-54), 3) := by decide +kernel
theorem dX7_swapAll_59 : decode cX7_swapAll 59 = .ok (.return_, 1) := by decide +kernel
theorem dX7_write_0 : decode cX7_write 0 = .ok (.aload_n 0, 1) := by decide +kernel
theorem dX7_write_1 : decode cX7_write 1 = .ok (.invokevirtual 313, 3) := by decide +kernel
theorem dX7_write_4 : decode cX7_write 4 = .ok (.ifCond .eq 31, 3) := by decide +kernel
theorem dX7_write_7 : decode cX7_write 7 = .ok (.aload_n 0, 1) := by decide +kernel
theorem dX7_write_8 : decode cX7_write 8 = .ok (.iload_n 1, 1) := by decide +kernel
theorem dX7_write_9 : decode cX7_write 9 = .ok (.invokevirtual 438, 3) := by decide +kernel
theorem dX7_write_12 : decode cX7_write 12 = .ok (.ifCond .eq 23, 3) := by decide +kernel
theorem dX7_write_15 : decode cX7_write 15 = .ok (.iload_n 2, 1) := by decide +kernel
theorem dX7_write_16 : decode cX7_write 16 = .ok (.iconst 0, 1) := by decide +kernel
theorem dX7_write_17 : decode cX7_write 17 = .ok (.bipush 99, 2) := by decide +kernel
theorem dX7_write_19 : decode cX7_write 19 = .ok (.invokestatic 316, 3) := by decide +kernel
theorem dX7_write_22 : decode cX7_write 22 = .ok (.ifCond .eq 13, 3) := by decide +kernel
theorem dX7_write_25 : decode cX7_write 25 = .ok (.aload_n 0, 1) := by decide +kernel
theorem dX7_write_26 : decode cX7_write 26 = .ok (.iconst 0, 1) := by decide +kernel
theorem dX7_write_27 : decode cX7_write 27 = .ok (.invokevirtual 354, 3) := by decide +kernel
theorem dX7_write_30 : decode cX7_write 30 = .ok (.bipush 40, 2) := by decide +kernel
theorem dX7_write_32 : decode cX7_write 32 = .ok (.if_icmp .ne 5, 3) := by decide +kernel
theorem dX7_write_35 : decode cX7_write 35 = .ok (.iconst (-1), 1) := by decide +kernel
theorem dX7_write_36 : decode cX7_write 36 = .ok (.ireturn, 1) := by decide +kernel
theorem dX7_write_37 : decode cX7_write 37 = .ok (.aload_n 0, 1) := by decide +kernel
theorem dX7_write_38 : decode cX7_write 38 = .ok (.invokevirtual 444, 3) := by decide +kernel
theorem dX7_write_41 : decode cX7_write 41 = .ok (.aload_n 0, 1) := by decide +kernel
theorem dX7_write_42 : decode cX7_write 42 = .ok (.getfield 76, 3) := by decide +kernel
theorem dX7_write_45 : decode cX7_write 45 = .ok (.bipush 23, 2) := by decide +kernel
theorem dX7_write_47 : decode cX7_write 47 = .ok (.aload_n 0, 1) := by decide +kernel
theorem dX7_write_48 : decode cX7_write 48 = .ok (.iconst 0, 1) := by decide +kernel
theorem dX7_write_49 : decode cX7_write 49 = .ok (.invokevirtual 354, 3) := by decide +kernel
theorem dX7_write_52 : decode cX7_write 52 = .ok (.iadd, 1) := by decide +kernel
theorem dX7_write_53 : decode cX7_write 53 = .ok (.iconst 1, 1) := by decide +kernel
theorem dX7_write_54 : decode cX7_write 54 = .ok (.iadd, 1) := by decide +kernel
theorem dX7_write_55 : decode cX7_write 55 = .ok (.iload_n 1, 1) := by decide +kernel
theorem dX7_write_56 : decode cX7_write 56 = .ok (.iastore, 1) := by decide +kernel
theorem dX7_write_57 : decode cX7_write 57 = .ok (.aload_n 0, 1) := by decide +kernel
theorem dX7_write_58 : decode cX7_write 58 = .ok (.getfield 76, 3) := by decide +kernel
theorem dX7_write_61 : decode cX7_write 61 = .ok (.bipush 64, 2) := by decide +kernel
theorem dX7_write_63 : decode cX7_write 63 = .ok (.aload_n 0, 1) := by decide +kernel
theorem dX7_write_64 : decode cX7_write 64 = .ok (.iconst 0, 1) := by decide +kernel
theorem dX7_write_65 : decode cX7_write 65 = .ok (.invokevirtual 354, 3) := by decide +kernel
theorem dX7_write_68 : decode cX7_write 68 = .ok (.iadd, 1) := by decide +kernel
theorem dX7_write_69 : decode cX7_write 69 = .ok (.iconst 1, 1) := by decide +kernel
theorem dX7_write_70 : decode cX7_write 70 = .ok (.iadd, 1) := by decide +kernel
theorem dX7_write_71 : decode cX7_write 71 = .ok (.iload_n 2, 1) := by decide +kernel
theorem dX7_write_72 : decode cX7_write 72 = .ok (.iastore, 1) := by decide +kernel
theorem dX7_write_73 : decode cX7_write 73 = .ok (.aload_n 0, 1) := by decide +kernel
theorem dX7_write_74 : decode cX7_write 74 = .ok (.iconst 0, 1) := by decide +kernel
theorem dX7_write_75 : decode cX7_write 75 = .ok (.invokevirtual 374, 3) := by decide +kernel
theorem dX7_write_78 : decode cX7_write 78 = .ok (.aload_n 0, 1) := by decide +kernel
theorem dX7_write_79 : decode cX7_write 79 = .ok (.iconst 0, 1) := by decide +kernel
theorem dX7_write_80 : decode cX7_write 80 = .ok (.invokevirtual 354, 3) := by decide +kernel
theorem dX7_write_83 : decode cX7_write 83 = .ok (.ireturn, 1) := by decide +kernel
theorem dX7_tick_0 : decode cX7_tick 0 = .ok (.aload_n 0, 1) := by decide +kernel
theorem dX7_tick_1 : decode cX7_tick 1 = .ok (.invokevirtual 313, 3) := by decide +kernel
theorem dX7_tick_4 : decode cX7_tick 4 = .ok (.ifCond .eq 16, 3) := by decide +kernel
theorem dX7_tick_7 : decode cX7_tick 7 = .ok (.aload_n 0, 1) := by decide +kernel
theorem dX7_tick_8 : decode cX7_tick 8 = .ok (.getfield 76, 3) := by decide +kernel
theorem dX7_tick_11 : decode cX7_tick 11 = .ok (.bipush 108, 2) := by decide +kernel
theorem dX7_tick_13 : decode cX7_tick 13 = .ok (.iaload, 1) := by decide +kernel
theorem dX7_tick_14 : decode cX7_tick 14 = .ok (.sipush 999, 3) := by decide +kernel
theorem dX7_tick_17 : decode cX7_tick 17 = .ok (.if_icmp .ne 5, 3) := by decide +kernel
theorem dX7_tick_20 : decode cX7_tick 20 = .ok (.iconst (-1), 1) := by decide +kernel
theorem dX7_tick_21 : decode cX7_tick 21 = .ok (.ireturn, 1) := by decide +kernel
theorem dX7_tick_22 : decode cX7_tick 22 = .ok (.aload_n 0, 1) := by decide +kernel
theorem dX7_tick_23 : decode cX7_tick 23 = .ok (.invokevirtual 444, 3) := by decide +kernel
theorem dX7_tick_26 : decode cX7_tick 26 = .ok (.aload_n 0, 1) := by decide +kernel
theorem dX7_tick_27 : decode cX7_tick 27 = .ok (.invokevirtual 447, 3) := by decide +kernel
theorem dX7_tick_30 : decode cX7_tick 30 = .ok (.aload_n 0, 1) := by decide +kernel
theorem dX7_tick_31 : decode cX7_tick 31 = .ok (.getfield 395, 3) := by decide +kernel
theorem dX7_tick_34 : decode cX7_tick 34 = .ok (.ireturn, 1) := by decide +kernel
theorem dX7_lose_0 : decode cX7_lose 0 = .ok (.aload_n 0, 1) := by decide +kernel
theorem dX7_lose_1 : decode cX7_lose 1 = .ok (.iload_n 1, 1) := by decide +kernel
theorem dX7_lose_2 : decode cX7_lose 2 = .ok (.invokevirtual 407, 3) := by decide +kernel
theorem dX7_lose_5 : decode cX7_lose 5 = .ok (.ifCond .eq 11, 3) := by decide +kernel
theorem dX7_lose_8 : decode cX7_lose 8 = .ok (.aload_n 0, 1) := by decide +kernel
theorem dX7_lose_9 : decode cX7_lose 9 = .ok (.invokevirtual 313, 3) := by decide +kernel
theorem dX7_lose_12 : decode cX7_lose 12 = .ok (.iconst 1, 1) := by decide +kernel
theorem dX7_lose_13 : decode cX7_lose 13 = .ok (.if_icmp .ne 5, 3) := by decide +kernel
theorem dX7_lose_16 : decode cX7_lose 16 = .ok (.iconst (-1), 1) := by decide +kernel
theorem dX7_lose_17 : decode cX7_lose 17 = .ok (.ireturn, 1) := by decide +kernel
theorem dX7_lose_18 : decode cX7_lose 18 = .ok (.aload_n 0, 1) := by decide +kernel
theorem dX7_lose_19 : decode cX7_lose 19 = .ok (.invokevirtual 444, 3) := by decide +kernel
theorem dX7_lose_22 : decode cX7_lose 22 = .ok (.aload_n 0, 1) := by decide +kernel
theorem dX7_lose_23 : decode cX7_lose 23 = .ok (.aload_n 0, 1) := by decide +kernel
theorem dX7_lose_24 : decode cX7_lose 24 = .ok (.iload_n 1, 1) := by decide +kernel
theorem dX7_lose_25 : decode cX7_lose 25 = .ok (.invokevirtual 323, 3) := by decide +kernel
theorem dX7_lose_28 : decode cX7_lose 28 = .ok (.invokevirtual 398, 3) := by decide +kernel
theorem dX7_lose_31 : decode cX7_lose 31 = .ok (.ireturn, 1) := by decide +kernel
theorem dX7_join_0 : decode cX7_join 0 = .ok (.aload_n 0, 1) := by decide +kernel
theorem dX7_join_1 : decode cX7_join 1 = .ok (.iload_n 1, 1) := by decide +kernel
theorem dX7_join_2 : decode cX7_join 2 = .ok (.invokevirtual 320, 3) := by decide +kernel
theorem dX7_join_5 : decode cX7_join 5 = .ok (.ifCond .eq 37, 3) := by decide +kernel
theorem dX7_join_8 : decode cX7_join 8 = .ok (.aload_n 0, 1) := by decide +kernel
theorem dX7_join_9 : decode cX7_join 9 = .ok (.iload_n 1, 1) := by decide +kernel
theorem dX7_join_10 : decode cX7_join 10 = .ok (.invokevirtual 407, 3) := by decide +kernel
theorem dX7_join_13 : decode cX7_join 13 = .ok (.ifCond .ne 29, 3) := by decide +kernel
theorem dX7_join_16 : decode cX7_join 16 = .ok (.aload_n 0, 1) := by decide +kernel
theorem dX7_join_17 : decode cX7_join 17 = .ok (.getfield 76, 3) := by decide +kernel
theorem dX7_join_20 : decode cX7_join 20 = .ok (.bipush 105, 2) := by decide +kernel
theorem dX7_join_22 : decode cX7_join 22 = .ok (.iaload, 1) := by decide +kernel
theorem dX7_join_23 : decode cX7_join 23 = .ok (.ifCond .ge 19, 3) := by decide +kernel
theorem dX7_join_26 : decode cX7_join 26 = .ok (.aload_n 0, 1) := by decide +kernel
theorem dX7_join_27 : decode cX7_join 27 = .ok (.invokevirtual 313, 3) := by decide +kernel
theorem dX7_join_30 : decode cX7_join 30 = .ok (.ifCond .eq 12, 3) := by decide +kernel
theorem dX7_join_33 : decode cX7_join 33 = .ok (.aload_n 0, 1) := by decide +kernel
theorem dX7_join_34 : decode cX7_join 34 = .ok (.invokevirtual 313, 3) := by decide +kernel
theorem dX7_join_37 : decode cX7_join 37 = .ok (.bipush 6, 2) := by decide +kernel
theorem dX7_join_39 : decode cX7_join 39 = .ok (.if_icmp .ne 5, 3) := by decide +kernel
theorem dX7_join_42 : decode cX7_join 42 = .ok (.iconst (-1), 1) := by decide +kernel
theorem dX7_join_43 : decode cX7_join 43 = .ok (.ireturn, 1) := by decide +kernel
theorem dX7_join_44 : decode cX7_join 44 = .ok (.aload_n 0, 1) := by decide +kernel
theorem dX7_join_45 : decode cX7_join 45 = .ok (.invokevirtual 444, 3) := by decide +kernel
theorem dX7_join_48 : decode cX7_join 48 = .ok (.aload_n 0, 1) := by decide +kernel
theorem dX7_join_49 : decode cX7_join 49 = .ok (.getfield 76, 3) := by decide +kernel
theorem dX7_join_52 : decode cX7_join 52 = .ok (.bipush 105, 2) := by decide +kernel
theorem dX7_join_54 : decode cX7_join 54 = .ok (.iload_n 1, 1) := by decide +kernel
theorem dX7_join_55 : decode cX7_join 55 = .ok (.iastore, 1) := by decide +kernel
theorem dX7_join_56 : decode cX7_join 56 = .ok (.aload_n 0, 1) := by decide +kernel
theorem dX7_join_57 : decode cX7_join 57 = .ok (.getfield 76, 3) := by decide +kernel
theorem dX7_join_60 : decode cX7_join 60 = .ok (.bipush 106, 2) := by decide +kernel
theorem dX7_join_62 : decode cX7_join 62 = .ok (.aload_n 0, 1) := by decide +kernel
theorem dX7_join_63 : decode cX7_join 63 = .ok (.getfield 33, 3) := by decide +kernel
theorem dX7_join_66 : decode cX7_join 66 = .ok (.aload_n 0, 1) := by decide +kernel
theorem dX7_join_67 : decode cX7_join 67 = .ok (.getfield 214, 3) := by decide +kernel
theorem dX7_join_70 : decode cX7_join 70 = .ok (.iaload, 1) := by decide +kernel
theorem dX7_join_71 : decode cX7_join 71 = .ok (.iastore, 1) := by decide +kernel
theorem dX7_join_72 : decode cX7_join 72 = .ok (.aload_n 0, 1) := by decide +kernel
theorem dX7_join_73 : decode cX7_join 73 = .ok (.getfield 33, 3) := by decide +kernel
theorem dX7_join_76 : decode cX7_join 76 = .ok (.aload_n 0, 1) := by decide +kernel
theorem dX7_join_77 : decode cX7_join 77 = .ok (.getfield 214, 3) := by decide +kernel
theorem dX7_join_80 : decode cX7_join 80 = .ok (.iaload, 1) := by decide +kernel
theorem dX7_join_81 : decode cX7_join 81 = .ok (.ireturn, 1) := by decide +kernel
theorem dX7_undo_0 : decode cX7_undo 0 = .ok (.aload_n 0, 1) := by decide +kernel
theorem dX7_undo_1 : decode cX7_undo 1 = .ok (.getfield 329, 3) := by decide +kernel
theorem dX7_undo_4 : decode cX7_undo 4 = .ok (.ifCond .ne 5, 3) := by decide +kernel
theorem dX7_undo_7 : decode cX7_undo 7 = .ok (.iconst 0, 1) := by decide +kernel
theorem dX7_undo_8 : decode cX7_undo 8 = .ok (.ireturn, 1) := by decide +kernel
theorem dX7_undo_9 : decode cX7_undo 9 = .ok (.aload_n 0, 1) := by decide +kernel
theorem dX7_undo_10 : decode cX7_undo 10 = .ok (.dup, 1) := by decide +kernel
theorem dX7_undo_11 : decode cX7_undo 11 = .ok (.getfield 329, 3) := by decide +kernel
theorem dX7_undo_14 : decode cX7_undo 14 = .ok (.iconst 1, 1) := by decide +kernel
theorem dX7_undo_15 : decode cX7_undo 15 = .ok (.isub, 1) := by decide +kernel
theorem dX7_undo_16 : decode cX7_undo 16 = .ok (.putfield 329, 3) := by decide +kernel
theorem dX7_undo_19 : decode cX7_undo 19 = .ok (.aload_n 0, 1) := by decide +kernel
theorem dX7_undo_20 : decode cX7_undo 20 = .ok (.dup, 1) := by decide +kernel
theorem dX7_undo_21 : decode cX7_undo 21 = .ok (.getfield 332, 3) := by decide +kernel
theorem dX7_undo_24 : decode cX7_undo 24 = .ok (.iconst 1, 1) := by decide +kernel
theorem dX7_undo_25 : decode cX7_undo 25 = .ok (.iadd, 1) := by decide +kernel
theorem dX7_undo_26 : decode cX7_undo 26 = .ok (.putfield 332, 3) := by decide +kernel
theorem dX7_undo_29 : decode cX7_undo 29 = .ok (.aload_n 0, 1) := by decide +kernel
theorem dX7_undo_30 : decode cX7_undo 30 = .ok (.invokevirtual 450, 3) := by decide +kernel
theorem dX7_undo_33 : decode cX7_undo 33 = .ok (.iconst 1, 1) := by decide +kernel
theorem dX7_undo_34 : decode cX7_undo 34 = .ok (.ireturn, 1) := by decide +kernel
theorem dX7_redo_0 : decode cX7_redo 0 = .ok (.aload_n 0, 1) := by decide +kernel
theorem dX7_redo_1 : decode cX7_redo 1 = .ok (.getfield 332, 3) := by decide +kernel
theorem dX7_redo_4 : decode cX7_redo 4 = .ok (.ifCond .ne 5, 3) := by decide +kernel
theorem dX7_redo_7 : decode cX7_redo 7 = .ok (.iconst 0, 1) := by decide +kernel
theorem dX7_redo_8 : decode cX7_redo 8 = .ok (.ireturn, 1) := by decide +kernel
theorem dX7_redo_9 : decode cX7_redo 9 = .ok (.aload_n 0, 1) := by decide +kernel
theorem dX7_redo_10 : decode cX7_redo 10 = .ok (.invokevirtual 450, 3) := by decide +kernel
theorem dX7_redo_13 : decode cX7_redo 13 = .ok (.aload_n 0, 1) := by decide +kernel
theorem dX7_redo_14 : decode cX7_redo 14 = .ok (.dup, 1) := by decide +kernel
theorem dX7_redo_15 : decode cX7_redo 15 = .ok (.getfield 329, 3) := by decide +kernel
theorem dX7_redo_18 : decode cX7_redo 18 = .ok (.iconst 1, 1) := by decide +kernel
theorem dX7_redo_19 : decode cX7_redo 19 = .ok (.iadd, 1) := by decide +kernel
theorem dX7_redo_20 : decode cX7_redo 20 = .ok (.putfield 329, 3) := by decide +kernel
theorem dX7_redo_23 : decode cX7_redo 23 = .ok (.aload_n 0, 1) := by decide +kernel
theorem dX7_redo_24 : decode cX7_redo 24 = .ok (.dup, 1) := by decide +kernel
theorem dX7_redo_25 : decode cX7_redo 25 = .ok (.getfield 332, 3) := by decide +kernel
theorem dX7_redo_28 : decode cX7_redo 28 = .ok (.iconst 1, 1) := by decide +kernel
theorem dX7_redo_29 : decode cX7_redo 29 = .ok (.isub, 1) := by decide +kernel
theorem dX7_redo_30 : decode cX7_redo 30 = .ok (.putfield 332, 3) := by decide +kernel
theorem dX7_redo_33 : decode cX7_redo 33 = .ok (.iconst 1, 1) := by decide +kernel
theorem dX7_redo_34 : decode cX7_redo 34 = .ok (.ireturn, 1) := by decide +kernel
theorem dX7_will_0 : decode cX7_will 0 = .ok (.iload_n 1, 1) := by decide +kernel
theorem dX7_will_1 : decode cX7_will 1 = .ok (.iconst 0, 1) := by decide +kernel
theorem dX7_will_2 : decode cX7_will 2 = .ok (.bipush 60, 2) := by decide +kernel
theorem dX7_will_4 : decode cX7_will 4 = .ok (.invokestatic 316, 3) := by decide +kernel
theorem dX7_will_7 : decode cX7_will 7 = .ok (.ifCond .eq 19, 3) := by decide +kernel
theorem dX7_will_10 : decode cX7_will 10 = .ok (.iload_n 2, 1) := by decide +kernel
theorem dX7_will_11 : decode cX7_will 11 = .ok (.iconst 0, 1) := by decide +kernel
theorem dX7_will_12 : decode cX7_will 12 = .ok (.iconst 1, 1) := by decide +kernel
theorem dX7_will_13 : decode cX7_will 13 = .ok (.invokestatic 316, 3) := by decide +kernel
theorem dX7_will_16 : decode cX7_will 16 = .ok (.ifCond .eq 10, 3) := by decide +kernel
theorem dX7_will_19 : decode cX7_will 19 = .ok (.aload_n 0, 1) := by decide +kernel
theorem dX7_will_20 : decode cX7_will 20 = .ok (.invokevirtual 313, 3) := by decide +kernel
theorem dX7_will_23 : decode cX7_will 23 = .ok (.ifCond .ne 5, 3) := by decide +kernel
theorem dX7_will_26 : decode cX7_will 26 = .ok (.iconst (-1), 1) := by decide +kernel
theorem dX7_will_27 : decode cX7_will 27 = .ok (.ireturn, 1) := by decide +kernel
theorem dX7_will_28 : decode cX7_will 28 = .ok (.aload_n 0, 1) := by decide +kernel
theorem dX7_will_29 : decode cX7_will 29 = .ok (.invokevirtual 410, 3) := by decide +kernel
theorem dX7_will_32 : decode cX7_will 32 = .ok (.iconst 0, 1) := by decide +kernel
theorem dX7_will_33 : decode cX7_will 33 = .ok (.istore_n 3, 1) := by decide +kernel
theorem dX7_will_34 : decode cX7_will 34 = .ok (.iload_n 3, 1) := by decide +kernel
theorem dX7_will_35 : decode cX7_will 35 = .ok (.iload_n 1, 1) := by decide +kernel
theorem dX7_will_36 : decode cX7_will 36 = .ok (.if_icmp .ge 29, 3) := by decide +kernel
theorem dX7_will_39 : decode cX7_will 39 = .ok (.iload_n 2, 1) := by decide +kernel
theorem dX7_will_40 : decode cX7_will 40 = .ok (.iconst 1, 1) := by decide +kernel
theorem dX7_will_41 : decode cX7_will 41 = .ok (.if_icmp .ne 10, 3) := by decide +kernel
theorem dX7_will_44 : decode cX7_will 44 = .ok (.aload_n 0, 1) := by decide +kernel
theorem dX7_will_45 : decode cX7_will 45 = .ok (.invokevirtual 447, 3) := by decide +kernel
theorem dX7_will_48 : decode cX7_will 48 = .ok (.goto 11, 3) := by decide +kernel
theorem dX7_will_51 : decode cX7_will 51 = .ok (.aload_n 0, 1) := by decide +kernel
theorem dX7_will_52 : decode cX7_will 52 = .ok (.aload_n 0, 1) := by decide +kernel
theorem dX7_will_53 : decode cX7_will 53 = .ok (.invokevirtual 392, 3) := by decide +kernel
theorem dX7_will_56 : decode cX7_will 56 = .ok (.putfield 395, 3) := by decide +kernel
theorem dX7_will_59 : decode cX7_will 59 = .ok (.iinc 3 1, 3) := by decide +kernel
theorem dX7_will_62 : decode cX7_will 62 = .ok (.goto (-28), 3) := by decide +kernel
theorem dX7_will_65 : decode cX7_will 65 = .ok (.aload_n 0, 1) := by decide +kernel
theorem dX7_will_66 : decode cX7_will 66 = .ok (.iconst 0, 1) := by decide +kernel
theorem dX7_will_67 : decode cX7_will 67 = .ok (.invokevirtual 365, 3) := by decide +kernel
theorem dX7_will_70 : decode cX7_will 70 = .ok (.istore_n 3, 1) := by decide +kernel
theorem dX7_will_71 : decode cX7_will 71 = .ok (.aload_n 0, 1) := by decide +kernel
theorem dX7_will_72 : decode cX7_will 72 = .ok (.invokevirtual 416, 3) := by decide +kernel
theorem dX7_will_75 : decode cX7_will 75 = .ok (.iload_n 3, 1) := by decide +kernel
theorem dX7_will_76 : decode cX7_will 76 = .ok (.ireturn, 1) := by decide +kernel
theorem dX7_ticksTill_0 : decode cX7_ticksTill 0 = .ok (.iconst 0, 1) := by decide +kernel
theorem dX7_ticksTill_1 : decode cX7_ticksTill 1 = .ok (.istore_n 2, 1) := by decide +kernel
theorem dX7_ticksTill_2 : decode cX7_ticksTill 2 = .ok (.iload_n 2, 1) := by decide +kernel
theorem dX7_ticksTill_3 : decode cX7_ticksTill 3 = .ok (.sipush 400, 3) := by decide +kernel
theorem dX7_ticksTill_6 : decode cX7_ticksTill 6 = .ok (.if_icmp .gt 26, 3) := by decide +kernel
theorem dX7_ticksTill_9 : decode cX7_ticksTill 9 = .ok (.aload_n 0, 1) := by decide +kernel
theorem dX7_ticksTill_10 : decode cX7_ticksTill 10 = .ok (.iconst 0, 1) := by decide +kernel
theorem dX7_ticksTill_11 : decode cX7_ticksTill 11 = .ok (.invokevirtual 365, 3) := by decide +kernel
theorem dX7_ticksTill_14 : decode cX7_ticksTill 14 = .ok (.iload_n 1, 1) := by decide +kernel
theorem dX7_ticksTill_15 : decode cX7_ticksTill 15 = .ok (.if_icmp .ge 17, 3) := by decide +kernel
theorem dX7_ticksTill_18 : decode cX7_ticksTill 18 = .ok (.aload_n 0, 1) := by decide +kernel
theorem dX7_ticksTill_19 : decode cX7_ticksTill 19 = .ok (.aload_n 0, 1) := by decide +kernel
theorem dX7_ticksTill_20 : decode cX7_ticksTill 20 = .ok (.invokevirtual 392, 3) := by decide +kernel
theorem dX7_ticksTill_23 : decode cX7_ticksTill 23 = .ok (.putfield 395, 3) := by decide +kernel
theorem dX7_ticksTill_26 : decode cX7_ticksTill 26 = .ok (.iinc 2 1, 3) := by decide +kernel
theorem dX7_ticksTill_29 : decode cX7_ticksTill 29 = .ok (.goto (-27), 3) := by decide +kernel
theorem dX7_ticksTill_32 : decode cX7_ticksTill 32 = .ok (.iload_n 2, 1) := by decide +kernel
theorem dX7_ticksTill_33 : decode cX7_ticksTill 33 = .ok (.sipush 400, 3) := by decide +kernel
theorem dX7_ticksTill_36 : decode cX7_ticksTill 36 = .ok (.if_icmp .gt 7, 3) := by decide +kernel
theorem dX7_ticksTill_39 : decode cX7_ticksTill 39 = .ok (.iload_n 2, 1) := by decide +kernel
theorem dX7_ticksTill_40 : decode cX7_ticksTill 40 = .ok (.goto 4, 3) := by decide +kernel
theorem dX7_ticksTill_43 : decode cX7_ticksTill 43 = .ok (.iconst (-1), 1) := by decide +kernel
theorem dX7_ticksTill_44 : decode cX7_ticksTill 44 = .ok (.ireturn, 1) := by decide +kernel
theorem dX7_when_0 : decode cX7_when 0 = .ok (.aload_n 0, 1) := by decide +kernel
theorem dX7_when_1 : decode cX7_when 1 = .ok (.invokevirtual 313, 3) := by decide +kernel
theorem dX7_when_4 : decode cX7_when 4 = .ok (.ifCond .eq 16, 3) := by decide +kernel
theorem dX7_when_7 : decode cX7_when 7 = .ok (.iload_n 1, 1) := by decide +kernel
theorem dX7_when_8 : decode cX7_when 8 = .ok (.iconst 1, 1) := by decide +kernel
theorem dX7_when_9 : decode cX7_when 9 = .ok (.aload_n 0, 1) := by decide +kernel
theorem dX7_when_10 : decode cX7_when 10 = .ok (.iconst 0, 1) := by decide +kernel
theorem dX7_when_11 : decode cX7_when 11 = .ok (.invokevirtual 354, 3) := by decide +kernel
theorem dX7_when_14 : decode cX7_when 14 = .ok (.invokestatic 316, 3) := by decide +kernel
theorem dX7_when_17 : decode cX7_when 17 = .ok (.ifCond .ne 5, 3) := by decide +kernel
theorem dX7_when_20 : decode cX7_when 20 = .ok (.iconst (-1), 1) := by decide +kernel
theorem dX7_when_21 : decode cX7_when 21 = .ok (.ireturn, 1) := by decide +kernel
theorem dX7_when_22 : decode cX7_when 22 = .ok (.aload_n 0, 1) := by decide +kernel
theorem dX7_when_23 : decode cX7_when 23 = .ok (.invokevirtual 410, 3) := by decide +kernel
theorem dX7_when_26 : decode cX7_when 26 = .ok (.aload_n 0, 1) := by decide +kernel
theorem dX7_when_27 : decode cX7_when 27 = .ok (.iload_n 1, 1) := by decide +kernel
theorem dX7_when_28 : decode cX7_when 28 = .ok (.invokevirtual 453, 3) := by decide +kernel
theorem dX7_when_31 : decode cX7_when 31 = .ok (.istore_n 2, 1) := by decide +kernel
theorem dX7_when_32 : decode cX7_when 32 = .ok (.aload_n 0, 1) := by decide +kernel
theorem dX7_when_33 : decode cX7_when 33 = .ok (.invokevirtual 416, 3) := by decide +kernel
theorem dX7_when_36 : decode cX7_when 36 = .ok (.iload_n 2, 1) := by decide +kernel
theorem dX7_when_37 : decode cX7_when 37 = .ok (.ireturn, 1) := by decide +kernel
theorem dX7_still_0 : decode cX7_still 0 = .ok (.aload_n 0, 1) := by decide +kernel
theorem dX7_still_1 : decode cX7_still 1 = .ok (.invokevirtual 410, 3) := by decide +kernel
theorem dX7_still_4 : decode cX7_still 4 = .ok (.iconst 0, 1) := by decide +kernel
theorem dX7_still_5 : decode cX7_still 5 = .ok (.istore_n 1, 1) := by decide +kernel
theorem dX7_still_6 : decode cX7_still 6 = .ok (.iload_n 1, 1) := by decide +kernel
theorem dX7_still_7 : decode cX7_still 7 = .ok (.sipush 400, 3) := by decide +kernel
theorem dX7_still_10 : decode cX7_still 10 = .ok (.if_icmp .ge 34, 3) := by decide +kernel
theorem dX7_still_13 : decode cX7_still 13 = .ok (.aload_n 0, 1) := by decide +kernel
theorem dX7_still_14 : decode cX7_still 14 = .ok (.invokevirtual 413, 3) := by decide +kernel
theorem dX7_still_17 : decode cX7_still 17 = .ok (.ifCond .gt 13, 3) := by decide +kernel
theorem dX7_still_20 : decode cX7_still 20 = .ok (.aload_n 0, 1) := by decide +kernel
theorem dX7_still_21 : decode cX7_still 21 = .ok (.getfield 76, 3) := by decide +kernel
theorem dX7_still_24 : decode cX7_still 24 = .ok (.bipush 105, 2) := by decide +kernel
theorem dX7_still_26 : decode cX7_still 26 = .ok (.iaload, 1) := by decide +kernel
theorem dX7_still_27 : decode cX7_still 27 = .ok (.ifCond .lt 17, 3) := by decide +kernel
theorem dX7_still_30 : decode cX7_still 30 = .ok (.aload_n 0, 1) := by decide +kernel
theorem dX7_still_31 : decode cX7_still 31 = .ok (.aload_n 0, 1) := by decide +kernel
theorem dX7_still_32 : decode cX7_still 32 = .ok (.invokevirtual 392, 3) := by decide +kernel
theorem dX7_still_35 : decode cX7_still 35 = .ok (.putfield 395, 3) := by decide +kernel
theorem dX7_still_38 : decode cX7_still 38 = .ok (.iinc 1 1, 3) := by decide +kernel
theorem dX7_still_41 : decode cX7_still 41 = .ok (.goto (-35), 3) := by decide +kernel
theorem dX7_still_44 : decode cX7_still 44 = .ok (.aload_n 0, 1) := by decide +kernel
theorem dX7_still_45 : decode cX7_still 45 = .ok (.invokevirtual 416, 3) := by decide +kernel
theorem dX7_still_48 : decode cX7_still 48 = .ok (.iload_n 1, 1) := by decide +kernel
theorem dX7_still_49 : decode cX7_still 49 = .ok (.ireturn, 1) := by decide +kernel
theorem dX7_tripOf_0 : decode cX7_tripOf 0 = .ok (.aload_n 0, 1) := by decide +kernel
theorem dX7_tripOf_1 : decode cX7_tripOf 1 = .ok (.invokevirtual 410, 3) := by decide +kernel
theorem dX7_tripOf_4 : decode cX7_tripOf 4 = .ok (.aload_n 0, 1) := by decide +kernel
theorem dX7_tripOf_5 : decode cX7_tripOf 5 = .ok (.iconst 0, 1) := by decide +kernel
theorem dX7_tripOf_6 : decode cX7_tripOf 6 = .ok (.invokevirtual 374, 3) := by decide +kernel
theorem dX7_tripOf_9 : decode cX7_tripOf 9 = .ok (.aload_n 0, 1) := by decide +kernel
theorem dX7_tripOf_10 : decode cX7_tripOf 10 = .ok (.iconst 0, 1) := by decide +kernel
theorem dX7_tripOf_11 : decode cX7_tripOf 11 = .ok (.invokevirtual 354, 3) := by decide +kernel
theorem dX7_tripOf_14 : decode cX7_tripOf 14 = .ok (.istore_n 2, 1) := by decide +kernel
theorem dX7_tripOf_15 : decode cX7_tripOf 15 = .ok (.iload_n 1, 1) := by decide +kernel
theorem dX7_tripOf_16 : decode cX7_tripOf 16 = .ok (.ifCond .lt 16, 3) := by decide +kernel
theorem dX7_tripOf_19 : decode cX7_tripOf 19 = .ok (.aload_n 0, 1) := by decide +kernel
theorem dX7_tripOf_20 : decode cX7_tripOf 20 = .ok (.aload_n 0, 1) := by decide +kernel
theorem dX7_tripOf_21 : decode cX7_tripOf 21 = .ok (.aload_n 0, 1) := by decide +kernel
theorem dX7_tripOf_22 : decode cX7_tripOf 22 = .ok (.iload_n 1, 1) := by decide +kernel
theorem dX7_tripOf_23 : decode cX7_tripOf 23 = .ok (.invokevirtual 323, 3) := by decide +kernel
theorem dX7_tripOf_26 : decode cX7_tripOf 26 = .ok (.invokevirtual 398, 3) := by decide +kernel
theorem dX7_tripOf_29 : decode cX7_tripOf 29 = .ok (.putfield 395, 3) := by decide +kernel
theorem dX7_tripOf_32 : decode cX7_tripOf 32 = .ok (.aload_n 0, 1) := by decide +kernel
theorem dX7_tripOf_33 : decode cX7_tripOf 33 = .ok (.iconst 0, 1) := by decide +kernel
theorem dX7_tripOf_34 : decode cX7_tripOf 34 = .ok (.invokevirtual 354, 3) := by decide +kernel
theorem dX7_tripOf_37 : decode cX7_tripOf 37 = .ok (.iload_n 2, 1) := by decide +kernel
theorem dX7_tripOf_38 : decode cX7_tripOf 38 = .ok (.if_icmp .ge 7, 3) := by decide +kernel
theorem dX7_tripOf_41 : decode cX7_tripOf 41 = .ok (.iconst (-1), 1) := by decide +kernel
theorem dX7_tripOf_42 : decode cX7_tripOf 42 = .ok (.goto 8, 3) := by decide +kernel
theorem dX7_tripOf_45 : decode cX7_tripOf 45 = .ok (.aload_n 0, 1) := by decide +kernel
theorem dX7_tripOf_46 : decode cX7_tripOf 46 = .ok (.iload_n 2, 1) := by decide +kernel
theorem dX7_tripOf_47 : decode cX7_tripOf 47 = .ok (.invokevirtual 453, 3) := by decide +kernel
theorem dX7_tripOf_50 : decode cX7_tripOf 50 = .ok (.istore_n 3, 1) := by decide +kernel
theorem dX7_tripOf_51 : decode cX7_tripOf 51 = .ok (.aload_n 0, 1) := by decide +kernel
theorem dX7_tripOf_52 : decode cX7_tripOf 52 = .ok (.invokevirtual 416, 3) := by decide +kernel
theorem dX7_tripOf_55 : decode cX7_tripOf 55 = .ok (.iload_n 3, 1) := by decide +kernel
theorem dX7_tripOf_56 : decode cX7_tripOf 56 = .ok (.ireturn, 1) := by decide +kernel
theorem dX7_canWrite_0 : decode cX7_canWrite 0 = .ok (.aload_n 0, 1) := by decide +kernel
theorem dX7_canWrite_1 : decode cX7_canWrite 1 = .ok (.invokevirtual 313, 3) := by decide +kernel
theorem dX7_canWrite_4 : decode cX7_canWrite 4 = .ok (.ifCond .le 17, 3) := by decide +kernel
theorem dX7_canWrite_7 : decode cX7_canWrite 7 = .ok (.aload_n 0, 1) := by decide +kernel
theorem dX7_canWrite_8 : decode cX7_canWrite 8 = .ok (.iconst 0, 1) := by decide +kernel
theorem dX7_canWrite_9 : decode cX7_canWrite 9 = .ok (.invokevirtual 354, 3) := by decide +kernel
theorem dX7_canWrite_12 : decode cX7_canWrite 12 = .ok (.bipush 40, 2) := by decide +kernel
theorem dX7_canWrite_14 : decode cX7_canWrite 14 = .ok (.if_icmp .ge 7, 3) := by decide +kernel
theorem dX7_canWrite_17 : decode cX7_canWrite 17 = .ok (.iconst 1, 1) := by decide +kernel
theorem dX7_canWrite_18 : decode cX7_canWrite 18 = .ok (.goto 4, 3) := by decide +kernel
theorem dX7_canWrite_21 : decode cX7_canWrite 21 = .ok (.iconst 0, 1) := by decide +kernel
theorem dX7_canWrite_22 : decode cX7_canWrite 22 = .ok (.ireturn, 1) := by decide +kernel
theorem dX7_trip_0 : decode cX7_trip 0 = .ok (.aload_n 0, 1) := by decide +kernel
theorem dX7_trip_1 : decode cX7_trip 1 = .ok (.invokevirtual 456, 3) := by decide +kernel
theorem dX7_trip_4 : decode cX7_trip 4 = .ok (.ifCond .eq 11, 3) := by decide +kernel
theorem dX7_trip_7 : decode cX7_trip 7 = .ok (.aload_n 0, 1) := by decide +kernel
theorem dX7_trip_8 : decode cX7_trip 8 = .ok (.iconst (-1), 1) := by decide +kernel
theorem dX7_trip_9 : decode cX7_trip 9 = .ok (.invokevirtual 459, 3) := by decide +kernel
theorem dX7_trip_12 : decode cX7_trip 12 = .ok (.goto 4, 3) := by decide +kernel
theorem dX7_trip_15 : decode cX7_trip 15 = .ok (.iconst (-1), 1) := by decide +kernel
theorem dX7_trip_16 : decode cX7_trip 16 = .ok (.ireturn, 1) := by decide +kernel
theorem dX7_without_0 : decode cX7_without 0 = .ok (.aload_n 0, 1) := by decide +kernel
theorem dX7_without_1 : decode cX7_without 1 = .ok (.invokevirtual 456, 3) := by decide +kernel
theorem dX7_without_4 : decode cX7_without 4 = .ok (.ifCond .eq 27, 3) := by decide +kernel
theorem dX7_without_7 : decode cX7_without 7 = .ok (.aload_n 0, 1) := by decide +kernel
theorem dX7_without_8 : decode cX7_without 8 = .ok (.iload_n 1, 1) := by decide +kernel
theorem dX7_without_9 : decode cX7_without 9 = .ok (.invokevirtual 407, 3) := by decide +kernel
theorem dX7_without_12 : decode cX7_without 12 = .ok (.ifCond .eq 19, 3) := by decide +kernel
theorem dX7_without_15 : decode cX7_without 15 = .ok (.aload_n 0, 1) := by decide +kernel
theorem dX7_without_16 : decode cX7_without 16 = .ok (.invokevirtual 313, 3) := by decide +kernel
theorem dX7_without_19 : decode cX7_without 19 = .ok (.iconst 1, 1) := by decide +kernel
theorem dX7_without_20 : decode cX7_without 20 = .ok (.if_icmp .le 11, 3) := by decide +kernel
theorem dX7_without_23 : decode cX7_without 23 = .ok (.aload_n 0, 1) := by decide +kernel
theorem dX7_without_24 : decode cX7_without 24 = .ok (.iload_n 1, 1) := by decide +kernel
theorem dX7_without_25 : decode cX7_without 25 = .ok (.invokevirtual 459, 3) := by decide +kernel
theorem dX7_without_28 : decode cX7_without 28 = .ok (.goto 4, 3) := by decide +kernel
theorem dX7_without_31 : decode cX7_without 31 = .ok (.iconst (-1), 1) := by decide +kernel
theorem dX7_without_32 : decode cX7_without 32 = .ok (.ireturn, 1) := by decide +kernel
theorem dX7_law_0 : decode cX7_law 0 = .ok (.aload_n 0, 1) := by decide +kernel
theorem dX7_law_1 : decode cX7_law 1 = .ok (.invokevirtual 456, 3) := by decide +kernel
theorem dX7_law_4 : decode cX7_law 4 = .ok (.ifCond .eq 13, 3) := by decide +kernel
theorem dX7_law_7 : decode cX7_law 7 = .ok (.iload_n 1, 1) := by decide +kernel
theorem dX7_law_8 : decode cX7_law 8 = .ok (.iconst 1, 1) := by decide +kernel
theorem dX7_law_9 : decode cX7_law 9 = .ok (.bipush 9, 2) := by decide +kernel
theorem dX7_law_11 : decode cX7_law 11 = .ok (.invokestatic 316, 3) := by decide +kernel
theorem dX7_law_14 : decode cX7_law 14 = .ok (.ifCond .ne 5, 3) := by decide +kernel
theorem dX7_law_17 : decode cX7_law 17 = .ok (.iconst (-1), 1) := by decide +kernel
theorem dX7_law_18 : decode cX7_law 18 = .ok (.ireturn, 1) := by decide +kernel
theorem dX7_law_19 : decode cX7_law 19 = .ok (.aload_n 0, 1) := by decide +kernel
theorem dX7_law_20 : decode cX7_law 20 = .ok (.iload_n 1, 1) := by decide +kernel
theorem dX7_law_21 : decode cX7_law 21 = .ok (.putfield 341, 3) := by decide +kernel
theorem dX7_law_24 : decode cX7_law 24 = .ok (.aload_n 0, 1) := by decide +kernel
theorem dX7_law_25 : decode cX7_law 25 = .ok (.iconst (-1), 1) := by decide +kernel
theorem dX7_law_26 : decode cX7_law 26 = .ok (.invokevirtual 459, 3) := by decide +kernel
theorem dX7_law_29 : decode cX7_law 29 = .ok (.istore_n 2, 1) := by decide +kernel
theorem dX7_law_30 : decode cX7_law 30 = .ok (.aload_n 0, 1) := by decide +kernel
theorem dX7_law_31 : decode cX7_law 31 = .ok (.iconst 0, 1) := by decide +kernel
theorem dX7_law_32 : decode cX7_law 32 = .ok (.putfield 341, 3) := by decide +kernel
theorem dX7_law_35 : decode cX7_law 35 = .ok (.iload_n 2, 1) := by decide +kernel
theorem dX7_law_36 : decode cX7_law 36 = .ok (.ireturn, 1) := by decide +kernel
theorem dX7_weed_0 : decode cX7_weed 0 = .ok (.iload_n 1, 1) := by decide +kernel
theorem dX7_weed_1 : decode cX7_weed 1 = .ok (.iconst 0, 1) := by decide +kernel
theorem dX7_weed_2 : decode cX7_weed 2 = .ok (.iconst 1, 1) := by decide +kernel
theorem dX7_weed_3 : decode cX7_weed 3 = .ok (.invokestatic 316, 3) := by decide +kernel
theorem dX7_weed_6 : decode cX7_weed 6 = .ok (.ifCond .eq 11, 3) := by decide +kernel
theorem dX7_weed_9 : decode cX7_weed 9 = .ok (.aload_n 0, 1) := by decide +kernel
theorem dX7_weed_10 : decode cX7_weed 10 = .ok (.invokevirtual 313, 3) := by decide +kernel
theorem dX7_weed_13 : decode cX7_weed 13 = .ok (.iconst 2, 1) := by decide +kernel
theorem dX7_weed_14 : decode cX7_weed 14 = .ok (.if_icmp .ge 5, 3) := by decide +kernel
theorem dX7_weed_17 : decode cX7_weed 17 = .ok (.iconst (-1), 1) := by decide +kernel
theorem dX7_weed_18 : decode cX7_weed 18 = .ok (.ireturn, 1) := by decide +kernel
theorem dX7_weed_19 : decode cX7_weed 19 = .ok (.iconst (-1), 1) := by decide +kernel
theorem dX7_weed_20 : decode cX7_weed 20 = .ok (.istore_n 2, 1) := by decide +kernel
theorem dX7_weed_21 : decode cX7_weed 21 = .ok (.ldc_w 422, 3) := by decide +kernel
theorem dX7_weed_24 : decode cX7_weed 24 = .ok (.istore_n 3, 1) := by decide +kernel
theorem dX7_weed_25 : decode cX7_weed 25 = .ok (.iconst 0, 1) := by decide +kernel
theorem dX7_weed_26 : decode cX7_weed 26 = .ok (.istore 4, 2) := by decide +kernel
theorem dX7_weed_28 : decode cX7_weed 28 = .ok (.iload 4, 2) := by decide +kernel
theorem dX7_weed_30 : decode cX7_weed 30 = .ok (.aload_n 0, 1) := by decide +kernel
theorem dX7_weed_31 : decode cX7_weed 31 = .ok (.invokevirtual 313, 3) := by decide +kernel
theorem dX7_weed_34 : decode cX7_weed 34 = .ok (.if_icmp .ge 73, 3) := by decide +kernel
theorem dX7_weed_37 : decode cX7_weed 37 = .ok (.aload_n 0, 1) := by decide +kernel
theorem dX7_weed_38 : decode cX7_weed 38 = .ok (.invokevirtual 410, 3) := by decide +kernel
theorem dX7_weed_41 : decode cX7_weed 41 = .ok (.aload_n 0, 1) := by decide +kernel
theorem dX7_weed_42 : decode cX7_weed 42 = .ok (.iload 4, 2) := by decide +kernel
theorem dX7_weed_44 : decode cX7_weed 44 = .ok (.invokevirtual 310, 3) := by decide +kernel
theorem dX7_weed_47 : decode cX7_weed 47 = .ok (.istore 5, 2) := by decide +kernel
theorem dX7_weed_49 : decode cX7_weed 49 = .ok (.aload_n 0, 1) := by decide +kernel
theorem dX7_weed_50 : decode cX7_weed 50 = .ok (.iload 4, 2) := by decide +kernel
theorem dX7_weed_52 : decode cX7_weed 52 = .ok (.invokevirtual 398, 3) := by decide +kernel
theorem dX7_weed_55 : decode cX7_weed 55 = .ok (.istore 6, 2) := by decide +kernel
theorem dX7_weed_57 : decode cX7_weed 57 = .ok (.iload 6, 2) := by decide +kernel
theorem dX7_weed_59 : decode cX7_weed 59 = .ok (.ifCond .le 7, 3) := by decide +kernel
theorem dX7_weed_62 : decode cX7_weed 62 = .ok (.iconst (-1), 1) := by decide +kernel
theorem dX7_weed_63 : decode cX7_weed 63 = .ok (.goto 12, 3) := by decide +kernel
theorem dX7_weed_66 : decode cX7_weed 66 = .ok (.aload_n 0, 1) := by decide +kernel
theorem dX7_weed_67 : decode cX7_weed 67 = .ok (.aload_n 0, 1) := by decide +kernel
theorem dX7_weed_68 : decode cX7_weed 68 = .ok (.iconst 0, 1) := by decide +kernel
theorem dX7_weed_69 : decode cX7_weed 69 = .ok (.invokevirtual 354, 3) := by decide +kernel
theorem dX7_weed_72 : decode cX7_weed 72 = .ok (.invokevirtual 453, 3) := by decide +kernel
theorem dX7_weed_75 : decode cX7_weed 75 = .ok (.istore 7, 2) := by decide +kernel
theorem dX7_weed_77 : decode cX7_weed 77 = .ok (.aload_n 0, 1) := by decide +kernel
theorem dX7_weed_78 : decode cX7_weed 78 = .ok (.invokevirtual 416, 3) := by decide +kernel
theorem dX7_weed_81 : decode cX7_weed 81 = .ok (.iload 7, 2) := by decide +kernel
theorem dX7_weed_83 : decode cX7_weed 83 = .ok (.ifCond .lt 18, 3) := by decide +kernel
theorem dX7_weed_86 : decode cX7_weed 86 = .ok (.iload 7, 2) := by decide +kernel
theorem dX7_weed_88 : decode cX7_weed 88 = .ok (.iload_n 3, 1) := by decide +kernel
theorem dX7_weed_89 : decode cX7_weed 89 = .ok (.if_icmp .lt 6, 3) := by decide +kernel
theorem dX7_weed_92 : decode cX7_weed 92 = .ok (.goto 9, 3) := by decide +kernel
theorem dX7_weed_95 : decode cX7_weed 95 = .ok (.iload 5, 2) := by decide +kernel
theorem dX7_weed_97 : decode cX7_weed 97 = .ok (.istore_n 2, 1) := by decide +kernel
theorem dX7_weed_98 : decode cX7_weed 98 = .ok (.iload 7, 2) := by decide +kernel
theorem dX7_weed_100 : decode cX7_weed 100 = .ok (.istore_n 3, 1) := by decide +kernel
theorem dX7_weed_101 : decode cX7_weed 101 = .ok (.iinc 4 1, 3) := by decide +kernel
theorem dX7_weed_104 : decode cX7_weed 104 = .ok (.goto (-76), 3) := by decide +kernel
theorem dX7_weed_107 : decode cX7_weed 107 = .ok (.iload_n 2, 1) := by decide +kernel
theorem dX7_weed_108 : decode cX7_weed 108 = .ok (.ifCond .ge 7, 3) := by decide +kernel
theorem dX7_weed_111 : decode cX7_weed 111 = .ok (.iconst (-1), 1) := by decide +kernel
theorem dX7_weed_112 : decode cX7_weed 112 = .ok (.goto 12, 3) := by decide +kernel
theorem dX7_weed_115 : decode cX7_weed 115 = .ok (.iload_n 1, 1) := by decide +kernel
theorem dX7_weed_116 : decode cX7_weed 116 = .ok (.ifCond .ne 7, 3) := by decide +kernel
theorem dX7_weed_119 : decode cX7_weed 119 = .ok (.iload_n 2, 1) := by decide +kernel
theorem dX7_weed_120 : decode cX7_weed 120 = .ok (.goto 4, 3) := by decide +kernel
theorem dX7_weed_123 : decode cX7_weed 123 = .ok (.iload_n 3, 1) := by decide +kernel
theorem dX7_weed_124 : decode cX7_weed 124 = .ok (.ireturn, 1) := by decide +kernel
theorem dX7_membersSet_0 : decode cX7_membersSet 0 = .ok (.aload_n 0, 1) := by decide +kernel
theorem dX7_membersSet_1 : decode cX7_membersSet 1 = .ok (.bipush 7, 2) := by decide +kernel
theorem dX7_membersSet_3 : decode cX7_membersSet 3 = .ok (.iconst 0, 1) := by decide +kernel
theorem dX7_membersSet_4 : decode cX7_membersSet 4 = .ok (.invokevirtual 404, 3) := by decide +kernel
theorem dX7_membersSet_7 : decode cX7_membersSet 7 = .ok (.ireturn, 1) := by decide +kernel
theorem dX7_mostWithout_0 : decode cX7_mostWithout 0 = .ok (.iconst 0, 1) := by decide +kernel
theorem dX7_mostWithout_1 : decode cX7_mostWithout 1 = .ok (.istore_n 2, 1) := by decide +kernel
theorem dX7_mostWithout_2 : decode cX7_mostWithout 2 = .ok (.iconst 0, 1) := by decide +kernel
theorem dX7_mostWithout_3 : decode cX7_mostWithout 3 = .ok (.istore_n 3, 1) := by decide +kernel
theorem dX7_mostWithout_4 : decode cX7_mostWithout 4 = .ok (.iload_n 3, 1) := by decide +kernel
theorem dX7_mostWithout_5 : decode cX7_mostWithout 5 = .ok (.aload_n 0, 1) := by decide +kernel
theorem dX7_mostWithout_6 : decode cX7_mostWithout 6 = .ok (.invokevirtual 313, 3) := by decide +kernel
theorem dX7_mostWithout_9 : decode cX7_mostWithout 9 = .ok (.if_icmp .ge 36, 3) := by decide +kernel
theorem dX7_mostWithout_12 : decode cX7_mostWithout 12 = .ok (.iload_n 1, 1) := by decide +kernel
theorem dX7_mostWithout_13 : decode cX7_mostWithout 13 = .ok (.aload_n 0, 1) := by decide +kernel
theorem dX7_mostWithout_14 : decode cX7_mostWithout 14 = .ok (.iload_n 3, 1) := by decide +kernel
theorem dX7_mostWithout_15 : decode cX7_mostWithout 15 = .ok (.invokevirtual 310, 3) := by decide +kernel
theorem dX7_mostWithout_18 : decode cX7_mostWithout 18 = .ok (.invokestatic 223, 3) := by decide +kernel
theorem dX7_mostWithout_21 : decode cX7_mostWithout 21 = .ok (.ifCond .ne 18, 3) := by decide +kernel
theorem dX7_mostWithout_24 : decode cX7_mostWithout 24 = .ok (.aload_n 0, 1) := by decide +kernel
theorem dX7_mostWithout_25 : decode cX7_mostWithout 25 = .ok (.iload_n 3, 1) := by decide +kernel
theorem dX7_mostWithout_26 : decode cX7_mostWithout 26 = .ok (.invokevirtual 354, 3) := by decide +kernel
theorem dX7_mostWithout_29 : decode cX7_mostWithout 29 = .ok (.iload_n 2, 1) := by decide +kernel
theorem dX7_mostWithout_30 : decode cX7_mostWithout 30 = .ok (.if_icmp .le 9, 3) := by decide +kernel
theorem dX7_mostWithout_33 : decode cX7_mostWithout 33 = .ok (.aload_n 0, 1) := by decide +kernel
theorem dX7_mostWithout_34 : decode cX7_mostWithout 34 = .ok (.iload_n 3, 1) := by decide +kernel
theorem dX7_mostWithout_35 : decode cX7_mostWithout 35 = .ok (.invokevirtual 354, 3) := by decide +kernel
theorem dX7_mostWithout_38 : decode cX7_mostWithout 38 = .ok (.istore_n 2, 1) := by decide +kernel
theorem dX7_mostWithout_39 : decode cX7_mostWithout 39 = .ok (.iinc 3 1, 3) := by decide +kernel
theorem dX7_mostWithout_42 : decode cX7_mostWithout 42 = .ok (.goto (-38), 3) := by decide +kernel
theorem dX7_mostWithout_45 : decode cX7_mostWithout 45 = .ok (.iload_n 2, 1) := by decide +kernel
theorem dX7_mostWithout_46 : decode cX7_mostWithout 46 = .ok (.ireturn, 1) := by decide +kernel
theorem dX7_drops_0 : decode cX7_drops 0 = .ok (.iload_n 1, 1) := by decide +kernel
theorem dX7_drops_1 : decode cX7_drops 1 = .ok (.aload_n 0, 1) := by decide +kernel
theorem dX7_drops_2 : decode cX7_drops 2 = .ok (.invokevirtual 462, 3) := by decide +kernel
theorem dX7_drops_5 : decode cX7_drops 5 = .ok (.iconst (-1), 1) := by decide +kernel
theorem dX7_drops_6 : decode cX7_drops 6 = .ok (.ixor, 1) := by decide +kernel
theorem dX7_drops_7 : decode cX7_drops 7 = .ok (.iand, 1) := by decide +kernel
theorem dX7_drops_8 : decode cX7_drops 8 = .ok (.ifCond .ne 25, 3) := by decide +kernel
theorem dX7_drops_11 : decode cX7_drops 11 = .ok (.iload_n 1, 1) := by decide +kernel
theorem dX7_drops_12 : decode cX7_drops 12 = .ok (.aload_n 0, 1) := by decide +kernel
theorem dX7_drops_13 : decode cX7_drops 13 = .ok (.invokevirtual 462, 3) := by decide +kernel
theorem dX7_drops_16 : decode cX7_drops 16 = .ok (.if_icmp .eq 17, 3) := by decide +kernel
theorem dX7_drops_19 : decode cX7_drops 19 = .ok (.aload_n 0, 1) := by decide +kernel
theorem dX7_drops_20 : decode cX7_drops 20 = .ok (.iconst 0, 1) := by decide +kernel
theorem dX7_drops_21 : decode cX7_drops 21 = .ok (.invokevirtual 354, 3) := by decide +kernel
theorem dX7_drops_24 : decode cX7_drops 24 = .ok (.aload_n 0, 1) := by decide +kernel
theorem dX7_drops_25 : decode cX7_drops 25 = .ok (.iload_n 1, 1) := by decide +kernel
theorem dX7_drops_26 : decode cX7_drops 26 = .ok (.invokevirtual 465, 3) := by decide +kernel
theorem dX7_drops_29 : decode cX7_drops 29 = .ok (.isub, 1) := by decide +kernel
theorem dX7_drops_30 : decode cX7_drops 30 = .ok (.goto 4, 3) := by decide +kernel
theorem dX7_drops_33 : decode cX7_drops 33 = .ok (.iconst (-1), 1) := by decide +kernel
theorem dX7_drops_34 : decode cX7_drops 34 = .ok (.ireturn, 1) := by decide +kernel
theorem dX7_worst_0 : decode cX7_worst 0 = .ok (.iload_n 1, 1) := by decide +kernel
theorem dX7_worst_1 : decode cX7_worst 1 = .ok (.iconst 1, 1) := by decide +kernel
theorem dX7_worst_2 : decode cX7_worst 2 = .ok (.iconst 5, 1) := by decide +kernel
theorem dX7_worst_3 : decode cX7_worst 3 = .ok (.invokestatic 316, 3) := by decide +kernel
theorem dX7_worst_6 : decode cX7_worst 6 = .ok (.ifCond .eq 20, 3) := by decide +kernel
theorem dX7_worst_9 : decode cX7_worst 9 = .ok (.iload_n 2, 1) := by decide +kernel
theorem dX7_worst_10 : decode cX7_worst 10 = .ok (.iconst 0, 1) := by decide +kernel
theorem dX7_worst_11 : decode cX7_worst 11 = .ok (.iconst 1, 1) := by decide +kernel
theorem dX7_worst_12 : decode cX7_worst 12 = .ok (.invokestatic 316, 3) := by decide +kernel
theorem dX7_worst_15 : decode cX7_worst 15 = .ok (.ifCond .eq 11, 3) := by decide +kernel
theorem dX7_worst_18 : decode cX7_worst 18 = .ok (.iload_n 1, 1) := by decide +kernel
theorem dX7_worst_19 : decode cX7_worst 19 = .ok (.aload_n 0, 1) := by decide +kernel
theorem dX7_worst_20 : decode cX7_worst 20 = .ok (.invokevirtual 313, 3) := by decide +kernel
theorem dX7_worst_23 : decode cX7_worst 23 = .ok (.if_icmp .lt 5, 3) := by decide +kernel
theorem dX7_worst_26 : decode cX7_worst 26 = .ok (.iconst (-1), 1) := by decide +kernel
theorem dX7_worst_27 : decode cX7_worst 27 = .ok (.ireturn, 1) := by decide +kernel
theorem dX7_worst_28 : decode cX7_worst 28 = .ok (.iconst (-1), 1) := by decide +kernel
theorem dX7_worst_29 : decode cX7_worst 29 = .ok (.istore_n 3, 1) := by decide +kernel
theorem dX7_worst_30 : decode cX7_worst 30 = .ok (.iconst 0, 1) := by decide +kernel
theorem dX7_worst_31 : decode cX7_worst 31 = .ok (.istore 4, 2) := by decide +kernel
theorem dX7_worst_33 : decode cX7_worst 33 = .ok (.iload 4, 2) := by decide +kernel
theorem dX7_worst_35 : decode cX7_worst 35 = .ok (.sipush 256, 3) := by decide +kernel
theorem dX7_worst_38 : decode cX7_worst 38 = .ok (.if_icmp .ge 54, 3) := by decide +kernel
theorem dX7_worst_41 : decode cX7_worst 41 = .ok (.iload 4, 2) := by decide +kernel
theorem dX7_worst_43 : decode cX7_worst 43 = .ok (.aload_n 0, 1) := by decide +kernel
theorem dX7_worst_44 : decode cX7_worst 44 = .ok (.invokevirtual 462, 3) := by decide +kernel
theorem dX7_worst_47 : decode cX7_worst 47 = .ok (.iconst (-1), 1) := by decide +kernel
theorem dX7_worst_48 : decode cX7_worst 48 = .ok (.ixor, 1) := by decide +kernel
theorem dX7_worst_49 : decode cX7_worst 49 = .ok (.iand, 1) := by decide +kernel
theorem dX7_worst_50 : decode cX7_worst 50 = .ok (.ifCond .ne 36, 3) := by decide +kernel
theorem dX7_worst_53 : decode cX7_worst 53 = .ok (.iload 4, 2) := by decide +kernel
theorem dX7_worst_55 : decode cX7_worst 55 = .ok (.invokestatic 468, 3) := by decide +kernel
theorem dX7_worst_58 : decode cX7_worst 58 = .ok (.iload_n 1, 1) := by decide +kernel
theorem dX7_worst_59 : decode cX7_worst 59 = .ok (.if_icmp .eq 6, 3) := by decide +kernel
theorem dX7_worst_62 : decode cX7_worst 62 = .ok (.goto 24, 3) := by decide +kernel
theorem dX7_worst_65 : decode cX7_worst 65 = .ok (.iload_n 3, 1) := by decide +kernel
theorem dX7_worst_66 : decode cX7_worst 66 = .ok (.ifCond .lt 17, 3) := by decide +kernel
theorem dX7_worst_69 : decode cX7_worst 69 = .ok (.aload_n 0, 1) := by decide +kernel
theorem dX7_worst_70 : decode cX7_worst 70 = .ok (.iload 4, 2) := by decide +kernel
theorem dX7_worst_72 : decode cX7_worst 72 = .ok (.invokevirtual 465, 3) := by decide +kernel
theorem dX7_worst_75 : decode cX7_worst 75 = .ok (.aload_n 0, 1) := by decide +kernel
theorem dX7_worst_76 : decode cX7_worst 76 = .ok (.iload_n 3, 1) := by decide +kernel
theorem dX7_worst_77 : decode cX7_worst 77 = .ok (.invokevirtual 465, 3) := by decide +kernel
theorem dX7_worst_80 : decode cX7_worst 80 = .ok (.if_icmp .ge 6, 3) := by decide +kernel
theorem dX7_worst_83 : decode cX7_worst 83 = .ok (.iload 4, 2) := by decide +kernel
theorem dX7_worst_85 : decode cX7_worst 85 = .ok (.istore_n 3, 1) := by decide +kernel
theorem dX7_worst_86 : decode cX7_worst 86 = .ok (.iinc 4 1, 3) := by decide +kernel
theorem dX7_worst_89 : decode cX7_worst 89 = .ok (.goto (-56), 3) := by decide +kernel
theorem dX7_worst_92 : decode cX7_worst 92 = .ok (.iload_n 2, 1) := by decide +kernel
theorem dX7_worst_93 : decode cX7_worst 93 = .ok (.ifCond .ne 17, 3) := by decide +kernel
theorem dX7_worst_96 : decode cX7_worst 96 = .ok (.aload_n 0, 1) := by decide +kernel
theorem dX7_worst_97 : decode cX7_worst 97 = .ok (.iconst 0, 1) := by decide +kernel
theorem dX7_worst_98 : decode cX7_worst 98 = .ok (.invokevirtual 354, 3) := by decide +kernel
theorem dX7_worst_101 : decode cX7_worst 101 = .ok (.aload_n 0, 1) := by decide +kernel
theorem dX7_worst_102 : decode cX7_worst 102 = .ok (.iload_n 3, 1) := by decide +kernel
theorem dX7_worst_103 : decode cX7_worst 103 = .ok (.invokevirtual 465, 3) := by decide +kernel
theorem dX7_worst_106 : decode cX7_worst 106 = .ok (.isub, 1) := by decide +kernel
theorem dX7_worst_107 : decode cX7_worst 107 = .ok (.goto 4, 3) := by decide +kernel
theorem dX7_worst_110 : decode cX7_worst 110 = .ok (.iload_n 3, 1) := by decide +kernel
theorem dX7_worst_111 : decode cX7_worst 111 = .ok (.ireturn, 1) := by decide +kernel
theorem dX7_safe_0 : decode cX7_safe 0 = .ok (.aload_n 0, 1) := by decide +kernel
theorem dX7_safe_1 : decode cX7_safe 1 = .ok (.invokevirtual 313, 3) := by decide +kernel
theorem dX7_safe_4 : decode cX7_safe 4 = .ok (.ifCond .ne 5, 3) := by decide +kernel
theorem dX7_safe_7 : decode cX7_safe 7 = .ok (.iconst (-1), 1) := by decide +kernel
theorem dX7_safe_8 : decode cX7_safe 8 = .ok (.ireturn, 1) := by decide +kernel
theorem dX7_safe_9 : decode cX7_safe 9 = .ok (.aload_n 0, 1) := by decide +kernel
theorem dX7_safe_10 : decode cX7_safe 10 = .ok (.invokevirtual 313, 3) := by decide +kernel
theorem dX7_safe_13 : decode cX7_safe 13 = .ok (.iconst 1, 1) := by decide +kernel
theorem dX7_safe_14 : decode cX7_safe 14 = .ok (.isub, 1) := by decide +kernel
theorem dX7_safe_15 : decode cX7_safe 15 = .ok (.istore_n 1, 1) := by decide +kernel
theorem dX7_safe_16 : decode cX7_safe 16 = .ok (.iconst 0, 1) := by decide +kernel
theorem dX7_safe_17 : decode cX7_safe 17 = .ok (.istore_n 2, 1) := by decide +kernel
theorem dX7_safe_18 : decode cX7_safe 18 = .ok (.iload_n 2, 1) := by decide +kernel
theorem dX7_safe_19 : decode cX7_safe 19 = .ok (.sipush 256, 3) := by decide +kernel
theorem dX7_safe_22 : decode cX7_safe 22 = .ok (.if_icmp .ge 61, 3) := by decide +kernel
theorem dX7_safe_25 : decode cX7_safe 25 = .ok (.iload_n 2, 1) := by decide +kernel
theorem dX7_safe_26 : decode cX7_safe 26 = .ok (.aload_n 0, 1) := by decide +kernel
theorem dX7_safe_27 : decode cX7_safe 27 = .ok (.invokevirtual 462, 3) := by decide +kernel
theorem dX7_safe_30 : decode cX7_safe 30 = .ok (.iconst (-1), 1) := by decide +kernel
theorem dX7_safe_31 : decode cX7_safe 31 = .ok (.ixor, 1) := by decide +kernel
theorem dX7_safe_32 : decode cX7_safe 32 = .ok (.iand, 1) := by decide +kernel
theorem dX7_safe_33 : decode cX7_safe 33 = .ok (.ifCond .ne 44, 3) := by decide +kernel
theorem dX7_safe_36 : decode cX7_safe 36 = .ok (.iload_n 2, 1) := by decide +kernel
theorem dX7_safe_37 : decode cX7_safe 37 = .ok (.aload_n 0, 1) := by decide +kernel
theorem dX7_safe_38 : decode cX7_safe 38 = .ok (.invokevirtual 462, 3) := by decide +kernel
theorem dX7_safe_41 : decode cX7_safe 41 = .ok (.if_icmp .eq 36, 3) := by decide +kernel
theorem dX7_safe_44 : decode cX7_safe 44 = .ok (.aload_n 0, 1) := by decide +kernel
theorem dX7_safe_45 : decode cX7_safe 45 = .ok (.iload_n 2, 1) := by decide +kernel
theorem dX7_safe_46 : decode cX7_safe 46 = .ok (.invokevirtual 465, 3) := by decide +kernel
theorem dX7_safe_49 : decode cX7_safe 49 = .ok (.aload_n 0, 1) := by decide +kernel
theorem dX7_safe_50 : decode cX7_safe 50 = .ok (.iconst 0, 1) := by decide +kernel
theorem dX7_safe_51 : decode cX7_safe 51 = .ok (.invokevirtual 365, 3) := by decide +kernel
theorem dX7_safe_54 : decode cX7_safe 54 = .ok (.if_icmp .lt 6, 3) := by decide +kernel
theorem dX7_safe_57 : decode cX7_safe 57 = .ok (.goto 20, 3) := by decide +kernel
theorem dX7_safe_60 : decode cX7_safe 60 = .ok (.iload_n 2, 1) := by decide +kernel
theorem dX7_safe_61 : decode cX7_safe 61 = .ok (.invokestatic 468, 3) := by decide +kernel
theorem dX7_safe_64 : decode cX7_safe 64 = .ok (.iconst 1, 1) := by decide +kernel
theorem dX7_safe_65 : decode cX7_safe 65 = .ok (.isub, 1) := by decide +kernel
theorem dX7_safe_66 : decode cX7_safe 66 = .ok (.iload_n 1, 1) := by decide +kernel
theorem dX7_safe_67 : decode cX7_safe 67 = .ok (.if_icmp .ge 10, 3) := by decide +kernel
theorem dX7_safe_70 : decode cX7_safe 70 = .ok (.iload_n 2, 1) := by decide +kernel
theorem dX7_safe_71 : decode cX7_safe 71 = .ok (.invokestatic 468, 3) := by decide +kernel
theorem dX7_safe_74 : decode cX7_safe 74 = .ok (.iconst 1, 1) := by decide +kernel
theorem dX7_safe_75 : decode cX7_safe 75 = .ok (.isub, 1) := by decide +kernel
theorem dX7_safe_76 : decode cX7_safe 76 = .ok (.istore_n 1, 1) := by decide +kernel
theorem dX7_safe_77 : decode cX7_safe 77 = .ok (.iinc 2 1, 3) := by decide +kernel
theorem dX7_safe_80 : decode cX7_safe 80 = .ok (.goto (-62), 3) := by decide +kernel
theorem dX7_safe_83 : decode cX7_safe 83 = .ok (.iload_n 1, 1) := by decide +kernel
theorem dX7_safe_84 : decode cX7_safe 84 = .ok (.ireturn, 1) := by decide +kernel
theorem dX7_lies_0 : decode cX7_lies 0 = .ok (.iload_n 1, 1) := by decide +kernel
theorem dX7_lies_1 : decode cX7_lies 1 = .ok (.iconst 0, 1) := by decide +kernel
theorem dX7_lies_2 : decode cX7_lies 2 = .ok (.aload_n 0, 1) := by decide +kernel
theorem dX7_lies_3 : decode cX7_lies 3 = .ok (.getfield 338, 3) := by decide +kernel
theorem dX7_lies_6 : decode cX7_lies 6 = .ok (.iconst 1, 1) := by decide +kernel
theorem dX7_lies_7 : decode cX7_lies 7 = .ok (.isub, 1) := by decide +kernel
theorem dX7_lies_8 : decode cX7_lies 8 = .ok (.invokestatic 316, 3) := by decide +kernel
theorem dX7_lies_11 : decode cX7_lies 11 = .ok (.ifCond .eq 12, 3) := by decide +kernel
theorem dX7_lies_14 : decode cX7_lies 14 = .ok (.aload_n 0, 1) := by decide +kernel
theorem dX7_lies_15 : decode cX7_lies 15 = .ok (.getfield 85, 3) := by decide +kernel
theorem dX7_lies_18 : decode cX7_lies 18 = .ok (.iload_n 1, 1) := by decide +kernel
theorem dX7_lies_19 : decode cX7_lies 19 = .ok (.iaload, 1) := by decide +kernel
theorem dX7_lies_20 : decode cX7_lies 20 = .ok (.goto 5, 3) := by decide +kernel
theorem dX7_lies_23 : decode cX7_lies 23 = .ok (.bipush (-2), 2) := by decide +kernel
theorem dX7_lies_25 : decode cX7_lies 25 = .ok (.ireturn, 1) := by decide +kernel
theorem dX7_nextOrder_0 : decode cX7_nextOrder 0 = .ok (.iload_n 1, 1) := by decide +kernel
theorem dX7_nextOrder_1 : decode cX7_nextOrder 1 = .ok (.iconst 2, 1) := by decide +kernel
theorem dX7_nextOrder_2 : decode cX7_nextOrder 2 = .ok (.isub, 1) := by decide +kernel
theorem dX7_nextOrder_3 : decode cX7_nextOrder 3 = .ok (.istore_n 2, 1) := by decide +kernel
theorem dX7_nextOrder_4 : decode cX7_nextOrder 4 = .ok (.iload_n 2, 1) := by decide +kernel
theorem dX7_nextOrder_5 : decode cX7_nextOrder 5 = .ok (.ifCond .lt 26, 3) := by decide +kernel
theorem dX7_nextOrder_8 : decode cX7_nextOrder 8 = .ok (.aload_n 0, 1) := by decide +kernel
theorem dX7_nextOrder_9 : decode cX7_nextOrder 9 = .ok (.getfield 88, 3) := by decide +kernel
theorem dX7_nextOrder_12 : decode cX7_nextOrder 12 = .ok (.iload_n 2, 1) := by decide +kernel
theorem dX7_nextOrder_13 : decode cX7_nextOrder 13 = .ok (.iaload, 1) := by decide +kernel
theorem dX7_nextOrder_14 : decode cX7_nextOrder 14 = .ok (.aload_n 0, 1) := by decide +kernel
theorem dX7_nextOrder_15 : decode cX7_nextOrder 15 = .ok (.getfield 88, 3) := by decide +kernel
theorem dX7_nextOrder_18 : decode cX7_nextOrder 18 = .ok (.iload_n 2, 1) := by decide +kernel
theorem dX7_nextOrder_19 : decode cX7_nextOrder 19 = .ok (.iconst 1, 1) := by decide +kernel
theorem dX7_nextOrder_20 : decode cX7_nextOrder 20 = .ok (.iadd, 1) := by decide +kernel
theorem dX7_nextOrder_21 : decode cX7_nextOrder 21 = .ok (.iaload, 1) := by decide +kernel
theorem dX7_nextOrder_22 : decode cX7_nextOrder 22 = .ok (.if_icmp .le 9, 3) := by decide +kernel
theorem dX7_nextOrder_25 : decode cX7_nextOrder 25 = .ok (.iinc 2 (-1), 3) := by decide +kernel
theorem dX7_nextOrder_28 : decode cX7_nextOrder 28 = .ok (.goto (-24), 3) := by decide +kernel
theorem dX7_nextOrder_31 : decode cX7_nextOrder 31 = .ok (.iload_n 2, 1) := by decide +kernel
theorem dX7_nextOrder_32 : decode cX7_nextOrder 32 = .ok (.ifCond .ge 5, 3) := by decide +kernel
theorem dX7_nextOrder_35 : decode cX7_nextOrder 35 = .ok (.iconst 0, 1) := by decide +kernel
theorem dX7_nextOrder_36 : decode cX7_nextOrder 36 = .ok (.ireturn, 1) := by decide +kernel
theorem dX7_nextOrder_37 : decode cX7_nextOrder 37 = .ok (.iload_n 1, 1) := by decide +kernel
theorem dX7_nextOrder_38 : decode cX7_nextOrder 38 = .ok (.iconst 1, 1) := by decide +kernel
theorem dX7_nextOrder_39 : decode cX7_nextOrder 39 = .ok (.isub, 1) := by decide +kernel
theorem dX7_nextOrder_40 : decode cX7_nextOrder 40 = .ok (.istore_n 3, 1) := by decide +kernel
theorem dX7_nextOrder_41 : decode cX7_nextOrder 41 = .ok (.aload_n 0, 1) := by decide +kernel
theorem dX7_nextOrder_42 : decode cX7_nextOrder 42 = .ok (.getfield 88, 3) := by decide +kernel
theorem dX7_nextOrder_45 : decode cX7_nextOrder 45 = .ok (.iload_n 3, 1) := by decide +kernel
theorem dX7_nextOrder_46 : decode cX7_nextOrder 46 = .ok (.iaload, 1) := by decide +kernel
theorem dX7_nextOrder_47 : decode cX7_nextOrder 47 = .ok (.aload_n 0, 1) := by decide +kernel
theorem dX7_nextOrder_48 : decode cX7_nextOrder 48 = .ok (.getfield 88, 3) := by decide +kernel
theorem dX7_nextOrder_51 : decode cX7_nextOrder 51 = .ok (.iload_n 2, 1) := by decide +kernel
theorem dX7_nextOrder_52 : decode cX7_nextOrder 52 = .ok (.iaload, 1) := by decide +kernel
theorem dX7_nextOrder_53 : decode cX7_nextOrder 53 = .ok (.if_icmp .ge 9, 3) := by decide +kernel
theorem dX7_nextOrder_56 : decode cX7_nextOrder 56 = .ok (.iinc 3 (-1), 3) := by decide +kernel
theorem dX7_nextOrder_59 : decode cX7_nextOrder 59 = .ok (.goto (-18), 3) := by decide +kernel
theorem dX7_nextOrder_62 : decode cX7_nextOrder 62 = .ok (.aload_n 0, 1) := by decide +kernel
theorem dX7_nextOrder_63 : decode cX7_nextOrder 63 = .ok (.iload_n 2, 1) := by decide +kernel
theorem dX7_nextOrder_64 : decode cX7_nextOrder 64 = .ok (.iload_n 3, 1) := by decide +kernel
theorem dX7_nextOrder_65 : decode cX7_nextOrder 65 = .ok (.invokevirtual 471, 3) := by decide +kernel
theorem dX7_nextOrder_68 : decode cX7_nextOrder 68 = .ok (.iconst 1, 1) := by decide +kernel
theorem dX7_nextOrder_69 : decode cX7_nextOrder 69 = .ok (.istore 4, 2) := by decide +kernel
theorem dX7_nextOrder_71 : decode cX7_nextOrder 71 = .ok (.iload_n 2, 1) := by decide +kernel
theorem dX7_nextOrder_72 : decode cX7_nextOrder 72 = .ok (.iload 4, 2) := by decide +kernel
theorem dX7_nextOrder_74 : decode cX7_nextOrder 74 = .ok (.iadd, 1) := by decide +kernel
theorem dX7_nextOrder_75 : decode cX7_nextOrder 75 = .ok (.iload_n 1, 1) := by decide +kernel
theorem dX7_nextOrder_76 : decode cX7_nextOrder 76 = .ok (.iload 4, 2) := by decide +kernel
theorem dX7_nextOrder_78 : decode cX7_nextOrder 78 = .ok (.isub, 1) := by decide +kernel
theorem dX7_nextOrder_79 : decode cX7_nextOrder 79 = .ok (.if_icmp .ge 21, 3) := by decide +kernel
theorem dX7_nextOrder_82 : decode cX7_nextOrder 82 = .ok (.aload_n 0, 1) := by decide +kernel
theorem dX7_nextOrder_83 : decode cX7_nextOrder 83 = .ok (.iload_n 2, 1) := by decide +kernel
theorem dX7_nextOrder_84 : decode cX7_nextOrder 84 = .ok (.iload 4, 2) := by decide +kernel
theorem dX7_nextOrder_86 : decode cX7_nextOrder 86 = .ok (.iadd, 1) := by decide +kernel
theorem dX7_nextOrder_87 : decode cX7_nextOrder 87 = .ok (.iload_n 1, 1) := by decide +kernel
theorem dX7_nextOrder_88 : decode cX7_nextOrder 88 = .ok (.iload 4, 2) := by decide +kernel
theorem dX7_nextOrder_90 : decode cX7_nextOrder 90 = .ok (.isub, 1) := by decide +kernel
theorem dX7_nextOrder_91 : decode cX7_nextOrder 91 = .ok (.invokevirtual 471, 3) := by decide +kernel
theorem dX7_nextOrder_94 : decode cX7_nextOrder 94 = .ok (.iinc 4 1, 3) := by decide +kernel
theorem dX7_nextOrder_97 : decode cX7_nextOrder 97 = .ok (.goto (-26), 3) := by decide +kernel
theorem dX7_nextOrder_100 : decode cX7_nextOrder 100 = .ok (.iconst 1, 1) := by decide +kernel
theorem dX7_nextOrder_101 : decode cX7_nextOrder 101 = .ok (.ireturn, 1) := by decide +kernel
theorem dX7_swapTrial_0 : decode cX7_swapTrial 0 = .ok (.aload_n 0, 1) := by decide +kernel
theorem dX7_swapTrial_1 : decode cX7_swapTrial 1 = .ok (.getfield 88, 3) := by decide +kernel
theorem dX7_swapTrial_4 : decode cX7_swapTrial 4 = .ok (.iload_n 1, 1) := by decide +kernel
theorem dX7_swapTrial_5 : decode cX7_swapTrial 5 = .ok (.iaload, 1) := by decide +kernel
theorem dX7_swapTrial_6 : decode cX7_swapTrial 6 = .ok (.istore_n 3, 1) := by decide +kernel
theorem dX7_swapTrial_7 : decode cX7_swapTrial 7 = .ok (.aload_n 0, 1) := by decide +kernel
theorem dX7_swapTrial_8 : decode cX7_swapTrial 8 = .ok (.getfield 88, 3) := by decide +kernel
theorem dX7_swapTrial_11 : decode cX7_swapTrial 11 = .ok (.iload_n 1, 1) := by decide +kernel
theorem dX7_swapTrial_12 : decode cX7_swapTrial 12 = .ok (.aload_n 0, 1) := by decide +kernel
theorem dX7_swapTrial_13 : decode cX7_swapTrial 13 = .ok (.getfield 88, 3) := by decide +kernel
theorem dX7_swapTrial_16 : decode cX7_swapTrial 16 = .ok (.iload_n 2, 1) := by decide +kernel
theorem dX7_swapTrial_17 : decode cX7_swapTrial 17 = .ok (.iaload, 1) := by decide +kernel
theorem dX7_swapTrial_18 : decode cX7_swapTrial 18 = .ok (.iastore, 1) := by decide +kernel
theorem dX7_swapTrial_19 : decode cX7_swapTrial 19 = .ok (.aload_n 0, 1) := by decide +kernel
theorem dX7_swapTrial_20 : decode cX7_swapTrial 20 = .ok (.getfield 88, 3) := by decide +kernel
theorem dX7_swapTrial_23 : decode cX7_swapTrial 23 = .ok (.iload_n 2, 1) := by decide +kernel
theorem dX7_swapTrial_24 : decode cX7_swapTrial 24 = .ok (.iload_n 3, 1) := by decide +kernel
theorem dX7_swapTrial_25 : decode cX7_swapTrial 25 = .ok (.iastore, 1) := by decide +kernel
theorem dX7_swapTrial_26 : decode cX7_swapTrial 26 = .ok (.return_, 1) := by decide +kernel
theorem dX7_ticksBy_0 : decode cX7_ticksBy 0 = .ok (.iconst 0, 1) := by decide +kernel
theorem dX7_ticksBy_1 : decode cX7_ticksBy 1 = .ok (.istore_n 2, 1) := by decide +kernel
theorem dX7_ticksBy_2 : decode cX7_ticksBy 2 = .ok (.iload_n 2, 1) := by decide +kernel
theorem dX7_ticksBy_3 : decode cX7_ticksBy 3 = .ok (.bipush 8, 2) := by decide +kernel
theorem dX7_ticksBy_5 : decode cX7_ticksBy 5 = .ok (.if_icmp .ge 29, 3) := by decide +kernel
theorem dX7_ticksBy_8 : decode cX7_ticksBy 8 = .ok (.aload_n 0, 1) := by decide +kernel
theorem dX7_ticksBy_9 : decode cX7_ticksBy 9 = .ok (.getfield 76, 3) := by decide +kernel
theorem dX7_ticksBy_12 : decode cX7_ticksBy 12 = .ok (.bipush 7, 2) := by decide +kernel
theorem dX7_ticksBy_14 : decode cX7_ticksBy 14 = .ok (.iload_n 2, 1) := by decide +kernel
theorem dX7_ticksBy_15 : decode cX7_ticksBy 15 = .ok (.iadd, 1) := by decide +kernel
theorem dX7_ticksBy_16 : decode cX7_ticksBy 16 = .ok (.iconst 0, 1) := by decide +kernel
theorem dX7_ticksBy_17 : decode cX7_ticksBy 17 = .ok (.iastore, 1) := by decide +kernel
theorem dX7_ticksBy_18 : decode cX7_ticksBy 18 = .ok (.aload_n 0, 1) := by decide +kernel
theorem dX7_ticksBy_19 : decode cX7_ticksBy 19 = .ok (.getfield 76, 3) := by decide +kernel
theorem dX7_ticksBy_22 : decode cX7_ticksBy 22 = .ok (.bipush 15, 2) := by decide +kernel
theorem dX7_ticksBy_24 : decode cX7_ticksBy 24 = .ok (.iload_n 2, 1) := by decide +kernel
theorem dX7_ticksBy_25 : decode cX7_ticksBy 25 = .ok (.iadd, 1) := by decide +kernel
theorem dX7_ticksBy_26 : decode cX7_ticksBy 26 = .ok (.iconst 0, 1) := by decide +kernel
theorem dX7_ticksBy_27 : decode cX7_ticksBy 27 = .ok (.iastore, 1) := by decide +kernel
theorem dX7_ticksBy_28 : decode cX7_ticksBy 28 = .ok (.iinc 2 1, 3) := by decide +kernel
theorem dX7_ticksBy_31 : decode cX7_ticksBy 31 = .ok (.goto (-29), 3) := by decide +kernel
theorem dX7_ticksBy_34 : decode cX7_ticksBy 34 = .ok (.iconst 0, 1) := by decide +kernel
theorem dX7_ticksBy_35 : decode cX7_ticksBy 35 = .ok (.istore_n 2, 1) := by decide +kernel
theorem dX7_ticksBy_36 : decode cX7_ticksBy 36 = .ok (.iload_n 2, 1) := by decide +kernel
theorem dX7_ticksBy_37 : decode cX7_ticksBy 37 = .ok (.iload_n 1, 1) := by decide +kernel
theorem dX7_ticksBy_38 : decode cX7_ticksBy 38 = .ok (.if_icmp .ge 23, 3) := by decide +kernel
theorem dX7_ticksBy_41 : decode cX7_ticksBy 41 = .ok (.aload_n 0, 1) := by decide +kernel
theorem dX7_ticksBy_42 : decode cX7_ticksBy 42 = .ok (.getfield 76, 3) := by decide +kernel
theorem dX7_ticksBy_45 : decode cX7_ticksBy 45 = .ok (.iconst 1, 1) := by decide +kernel
theorem dX7_ticksBy_46 : decode cX7_ticksBy 46 = .ok (.iload_n 2, 1) := by decide +kernel
theorem dX7_ticksBy_47 : decode cX7_ticksBy 47 = .ok (.iadd, 1) := by decide +kernel
theorem dX7_ticksBy_48 : decode cX7_ticksBy 48 = .ok (.aload_n 0, 1) := by decide +kernel
theorem dX7_ticksBy_49 : decode cX7_ticksBy 49 = .ok (.getfield 88, 3) := by decide +kernel
theorem dX7_ticksBy_52 : decode cX7_ticksBy 52 = .ok (.iload_n 2, 1) := by decide +kernel
theorem dX7_ticksBy_53 : decode cX7_ticksBy 53 = .ok (.iaload, 1) := by decide +kernel
theorem dX7_ticksBy_54 : decode cX7_ticksBy 54 = .ok (.iastore, 1) := by decide +kernel
theorem dX7_ticksBy_55 : decode cX7_ticksBy 55 = .ok (.iinc 2 1, 3) := by decide +kernel
theorem dX7_ticksBy_58 : decode cX7_ticksBy 58 = .ok (.goto (-22), 3) := by decide +kernel
theorem dX7_ticksBy_61 : decode cX7_ticksBy 61 = .ok (.aload_n 0, 1) := by decide +kernel
theorem dX7_ticksBy_62 : decode cX7_ticksBy 62 = .ok (.getfield 76, 3) := by decide +kernel
theorem dX7_ticksBy_65 : decode cX7_ticksBy 65 = .ok (.bipush 105, 2) := by decide +kernel
theorem dX7_ticksBy_67 : decode cX7_ticksBy 67 = .ok (.iconst (-1), 1) := by decide +kernel
theorem dX7_ticksBy_68 : decode cX7_ticksBy 68 = .ok (.iastore, 1) := by decide +kernel
theorem dX7_ticksBy_69 : decode cX7_ticksBy 69 = .ok (.aload_n 0, 1) := by decide +kernel
theorem dX7_ticksBy_70 : decode cX7_ticksBy 70 = .ok (.iconst 0, 1) := by decide +kernel
theorem dX7_ticksBy_71 : decode cX7_ticksBy 71 = .ok (.invokevirtual 374, 3) := by decide +kernel
theorem dX7_ticksBy_74 : decode cX7_ticksBy 74 = .ok (.aload_n 0, 1) := by decide +kernel
theorem dX7_ticksBy_75 : decode cX7_ticksBy 75 = .ok (.iconst 1, 1) := by decide +kernel
theorem dX7_ticksBy_76 : decode cX7_ticksBy 76 = .ok (.invokevirtual 453, 3) := by decide +kernel
theorem dX7_ticksBy_79 : decode cX7_ticksBy 79 = .ok (.istore_n 2, 1) := by decide +kernel
theorem dX7_ticksBy_80 : decode cX7_ticksBy 80 = .ok (.aload_n 0, 1) := by decide +kernel
theorem dX7_ticksBy_81 : decode cX7_ticksBy 81 = .ok (.invokevirtual 416, 3) := by decide +kernel
theorem dX7_ticksBy_84 : decode cX7_ticksBy 84 = .ok (.iload_n 2, 1) := by decide +kernel
theorem dX7_ticksBy_85 : decode cX7_ticksBy 85 = .ok (.ireturn, 1) := by decide +kernel
theorem dX7_soonest_0 : decode cX7_soonest 0 = .ok (.aload_n 0, 1) := by decide +kernel
theorem dX7_soonest_1 : decode cX7_soonest 1 = .ok (.iconst 0, 1) := by decide +kernel
theorem dX7_soonest_2 : decode cX7_soonest 2 = .ok (.putfield 338, 3) := by decide +kernel
theorem dX7_soonest_5 : decode cX7_soonest 5 = .ok (.aload_n 0, 1) := by decide +kernel
theorem dX7_soonest_6 : decode cX7_soonest 6 = .ok (.invokevirtual 313, 3) := by decide +kernel
theorem dX7_soonest_9 : decode cX7_soonest 9 = .ok (.istore_n 1, 1) := by decide +kernel
theorem dX7_soonest_10 : decode cX7_soonest 10 = .ok (.iload_n 1, 1) := by decide +kernel
theorem dX7_soonest_11 : decode cX7_soonest 11 = .ok (.ifCond .ne 5, 3) := by decide +kernel
theorem dX7_soonest_14 : decode cX7_soonest 14 = .ok (.iconst (-1), 1) := by decide +kernel
theorem dX7_soonest_15 : decode cX7_soonest 15 = .ok (.ireturn, 1) := by decide +kernel
theorem dX7_soonest_16 : decode cX7_soonest 16 = .ok (.iconst 0, 1) := by decide +kernel
theorem dX7_soonest_17 : decode cX7_soonest 17 = .ok (.istore_n 2, 1) := by decide +kernel
theorem dX7_soonest_18 : decode cX7_soonest 18 = .ok (.iconst 0, 1) := by decide +kernel
theorem dX7_soonest_19 : decode cX7_soonest 19 = .ok (.istore_n 3, 1) := by decide +kernel
theorem dX7_soonest_20 : decode cX7_soonest 20 = .ok (.iload_n 3, 1) := by decide +kernel
theorem dX7_soonest_21 : decode cX7_soonest 21 = .ok (.aload_n 0, 1) := by decide +kernel
theorem dX7_soonest_22 : decode cX7_soonest 22 = .ok (.getfield 20, 3) := by decide +kernel
theorem dX7_soonest_25 : decode cX7_soonest 25 = .ok (.aload_n 0, 1) := by decide +kernel
theorem dX7_soonest_26 : decode cX7_soonest 26 = .ok (.getfield 214, 3) := by decide +kernel
theorem dX7_soonest_29 : decode cX7_soonest 29 = .ok (.iaload, 1) := by decide +kernel
theorem dX7_soonest_30 : decode cX7_soonest 30 = .ok (.if_icmp .ge 30, 3) := by decide +kernel
theorem dX7_soonest_33 : decode cX7_soonest 33 = .ok (.aload_n 0, 1) := by decide +kernel
theorem dX7_soonest_34 : decode cX7_soonest 34 = .ok (.iload_n 3, 1) := by decide +kernel
theorem dX7_soonest_35 : decode cX7_soonest 35 = .ok (.invokevirtual 323, 3) := by decide +kernel
theorem dX7_soonest_38 : decode cX7_soonest 38 = .ok (.ifCond .ge 6, 3) := by decide +kernel
theorem dX7_soonest_41 : decode cX7_soonest 41 = .ok (.goto 13, 3) := by decide +kernel
theorem dX7_soonest_44 : decode cX7_soonest 44 = .ok (.aload_n 0, 1) := by decide +kernel
theorem dX7_soonest_45 : decode cX7_soonest 45 = .ok (.getfield 88, 3) := by decide +kernel
theorem dX7_soonest_48 : decode cX7_soonest 48 = .ok (.iload_n 2, 1) := by decide +kernel
theorem dX7_soonest_49 : decode cX7_soonest 49 = .ok (.iload_n 3, 1) := by decide +kernel
theorem dX7_soonest_50 : decode cX7_soonest 50 = .ok (.iastore, 1) := by decide +kernel
theorem dX7_soonest_51 : decode cX7_soonest 51 = .ok (.iinc 2 1, 3) := by decide +kernel
theorem dX7_soonest_54 : decode cX7_soonest 54 = .ok (.iinc 3 1, 3) := by decide +kernel
theorem dX7_soonest_57 : decode cX7_soonest 57 = .ok (.goto (-37), 3) := by decide +kernel
theorem dX7_soonest_60 : decode cX7_soonest 60 = .ok (.ldc_w 422, 3) := by decide +kernel
theorem dX7_soonest_63 : decode cX7_soonest 63 = .ok (.istore_n 3, 1) := by decide +kernel
theorem dX7_soonest_64 : decode cX7_soonest 64 = .ok (.aload_n 0, 1) := by decide +kernel
theorem dX7_soonest_65 : decode cX7_soonest 65 = .ok (.invokevirtual 410, 3) := by decide +kernel
theorem dX7_soonest_68 : decode cX7_soonest 68 = .ok (.iconst 1, 1) := by decide +kernel
theorem dX7_soonest_69 : decode cX7_soonest 69 = .ok (.istore 4, 2) := by decide +kernel
theorem dX7_soonest_71 : decode cX7_soonest 71 = .ok (.iload 4, 2) := by decide +kernel
theorem dX7_soonest_73 : decode cX7_soonest 73 = .ok (.ifCond .eq 58, 3) := by decide +kernel
theorem dX7_soonest_76 : decode cX7_soonest 76 = .ok (.aload_n 0, 1) := by decide +kernel
theorem dX7_soonest_77 : decode cX7_soonest 77 = .ok (.iload_n 1, 1) := by decide +kernel
theorem dX7_soonest_78 : decode cX7_soonest 78 = .ok (.invokevirtual 474, 3) := by decide +kernel
theorem dX7_soonest_81 : decode cX7_soonest 81 = .ok (.istore 5, 2) := by decide +kernel
theorem dX7_soonest_83 : decode cX7_soonest 83 = .ok (.iload 5, 2) := by decide +kernel
theorem dX7_soonest_85 : decode cX7_soonest 85 = .ok (.iload_n 3, 1) := by decide +kernel
theorem dX7_soonest_86 : decode cX7_soonest 86 = .ok (.if_icmp .ge 35, 3) := by decide +kernel
theorem dX7_soonest_89 : decode cX7_soonest 89 = .ok (.iload 5, 2) := by decide +kernel
theorem dX7_soonest_91 : decode cX7_soonest 91 = .ok (.istore_n 3, 1) := by decide +kernel
theorem dX7_soonest_92 : decode cX7_soonest 92 = .ok (.iconst 0, 1) := by decide +kernel
theorem dX7_soonest_93 : decode cX7_soonest 93 = .ok (.istore 6, 2) := by decide +kernel
theorem dX7_soonest_95 : decode cX7_soonest 95 = .ok (.iload 6, 2) := by decide +kernel
theorem dX7_soonest_97 : decode cX7_soonest 97 = .ok (.iload_n 1, 1) := by decide +kernel
theorem dX7_soonest_98 : decode cX7_soonest 98 = .ok (.if_icmp .ge 23, 3) := by decide +kernel
theorem dX7_soonest_101 : decode cX7_soonest 101 = .ok (.aload_n 0, 1) := by decide +kernel
theorem dX7_soonest_102 : decode cX7_soonest 102 = .ok (.getfield 85, 3) := by decide +kernel
theorem dX7_soonest_105 : decode cX7_soonest 105 = .ok (.iload 6, 2) := by decide +kernel
theorem dX7_soonest_107 : decode cX7_soonest 107 = .ok (.aload_n 0, 1) := by decide +kernel
theorem dX7_soonest_108 : decode cX7_soonest 108 = .ok (.getfield 88, 3) := by decide +kernel
theorem dX7_soonest_111 : decode cX7_soonest 111 = .ok (.iload 6, 2) := by decide +kernel
theorem dX7_soonest_113 : decode cX7_soonest 113 = .ok (.iaload, 1) := by decide +kernel
theorem dX7_soonest_114 : decode cX7_soonest 114 = .ok (.iastore, 1) := by decide +kernel
theorem dX7_soonest_115 : decode cX7_soonest 115 = .ok (.iinc 6 1, 3) := by decide +kernel
theorem dX7_soonest_118 : decode cX7_soonest 118 = .ok (.goto (-23), 3) := by decide +kernel
theorem dX7_soonest_121 : decode cX7_soonest 121 = .ok (.aload_n 0, 1) := by decide +kernel
theorem dX7_soonest_122 : decode cX7_soonest 122 = .ok (.iload_n 1, 1) := by decide +kernel
theorem dX7_soonest_123 : decode cX7_soonest 123 = .ok (.invokevirtual 477, 3) := by decide +kernel
theorem dX7_soonest_126 : decode cX7_soonest 126 = .ok (.istore 4, 2) := by decide +kernel
theorem dX7_soonest_128 : decode cX7_soonest 128 = .ok (.goto (-57), 3) := by decide +kernel
theorem dX7_soonest_131 : decode cX7_soonest 131 = .ok (.aload_n 0, 1) := by decide +kernel
theorem dX7_soonest_132 : decode cX7_soonest 132 = .ok (.iload_n 1, 1) := by decide +kernel
theorem dX7_soonest_133 : decode cX7_soonest 133 = .ok (.putfield 338, 3) := by decide +kernel
theorem dX7_soonest_136 : decode cX7_soonest 136 = .ok (.iload_n 3, 1) := by decide +kernel
theorem dX7_soonest_137 : decode cX7_soonest 137 = .ok (.ireturn, 1) := by decide +kernel
theorem dX7_odds_0 : decode cX7_odds 0 = .ok (.iload_n 1, 1) := by decide +kernel
theorem dX7_odds_1 : decode cX7_odds 1 = .ok (.iconst 0, 1) := by decide +kernel
theorem dX7_odds_2 : decode cX7_odds 2 = .ok (.iconst 4, 1) := by decide +kernel
theorem dX7_odds_3 : decode cX7_odds 3 = .ok (.invokestatic 316, 3) := by decide +kernel
theorem dX7_odds_6 : decode cX7_odds 6 = .ok (.ifCond .eq 12, 3) := by decide +kernel
theorem dX7_odds_9 : decode cX7_odds 9 = .ok (.iload_n 2, 1) := by decide +kernel
theorem dX7_odds_10 : decode cX7_odds 10 = .ok (.iconst 0, 1) := by decide +kernel
theorem dX7_odds_11 : decode cX7_odds 11 = .ok (.iconst 1, 1) := by decide +kernel
theorem dX7_odds_12 : decode cX7_odds 12 = .ok (.invokestatic 316, 3) := by decide +kernel
theorem dX7_odds_15 : decode cX7_odds 15 = .ok (.ifCond .ne 5, 3) := by decide +kernel
theorem dX7_odds_18 : decode cX7_odds 18 = .ok (.iconst (-1), 1) := by decide +kernel
theorem dX7_odds_19 : decode cX7_odds 19 = .ok (.ireturn, 1) := by decide +kernel
theorem dX7_odds_20 : decode cX7_odds 20 = .ok (.bipush 100, 2) := by decide +kernel
theorem dX7_odds_22 : decode cX7_odds 22 = .ok (.aload_n 0, 1) := by decide +kernel
theorem dX7_odds_23 : decode cX7_odds 23 = .ok (.getfield 36, 3) := by decide +kernel
theorem dX7_odds_26 : decode cX7_odds 26 = .ok (.aload_n 0, 1) := by decide +kernel
theorem dX7_odds_27 : decode cX7_odds 27 = .ok (.getfield 214, 3) := by decide +kernel
theorem dX7_odds_30 : decode cX7_odds 30 = .ok (.iaload, 1) := by decide +kernel
theorem dX7_odds_31 : decode cX7_odds 31 = .ok (.isub, 1) := by decide +kernel
theorem dX7_odds_32 : decode cX7_odds 32 = .ok (.iload_n 1, 1) := by decide +kernel
theorem dX7_odds_33 : decode cX7_odds 33 = .ok (.invokestatic 480, 3) := by decide +kernel
theorem dX7_odds_36 : decode cX7_odds 36 = .ok (.istore_n 3, 1) := by decide +kernel
theorem dX7_odds_37 : decode cX7_odds 37 = .ok (.bipush 100, 2) := by decide +kernel
theorem dX7_odds_39 : decode cX7_odds 39 = .ok (.iload_n 1, 1) := by decide +kernel
theorem dX7_odds_40 : decode cX7_odds 40 = .ok (.invokestatic 480, 3) := by decide +kernel
theorem dX7_odds_43 : decode cX7_odds 43 = .ok (.istore 4, 2) := by decide +kernel
theorem dX7_odds_45 : decode cX7_odds 45 = .ok (.iload_n 2, 1) := by decide +kernel
theorem dX7_odds_46 : decode cX7_odds 46 = .ok (.ifCond .ne 7, 3) := by decide +kernel
theorem dX7_odds_49 : decode cX7_odds 49 = .ok (.iload_n 3, 1) := by decide +kernel
theorem dX7_odds_50 : decode cX7_odds 50 = .ok (.goto 5, 3) := by decide +kernel
theorem dX7_odds_53 : decode cX7_odds 53 = .ok (.iload 4, 2) := by decide +kernel
theorem dX7_odds_55 : decode cX7_odds 55 = .ok (.iload 4, 2) := by decide +kernel
theorem dX7_odds_57 : decode cX7_odds 57 = .ok (.iload_n 3, 1) := by decide +kernel
theorem dX7_odds_58 : decode cX7_odds 58 = .ok (.invokestatic 483, 3) := by decide +kernel
theorem dX7_odds_61 : decode cX7_odds 61 = .ok (.idiv, 1) := by decide +kernel
theorem dX7_odds_62 : decode cX7_odds 62 = .ok (.ireturn, 1) := by decide +kernel
theorem dX7_seen_0 : decode cX7_seen 0 = .ok (.iload_n 1, 1) := by decide +kernel
theorem dX7_seen_1 : decode cX7_seen 1 = .ok (.iconst 0, 1) := by decide +kernel
theorem dX7_seen_2 : decode cX7_seen 2 = .ok (.bipush 60, 2) := by decide +kernel
theorem dX7_seen_4 : decode cX7_seen 4 = .ok (.invokestatic 316, 3) := by decide +kernel
theorem dX7_seen_7 : decode cX7_seen 7 = .ok (.ifCond .eq 24, 3) := by decide +kernel
theorem dX7_seen_10 : decode cX7_seen 10 = .ok (.aload_n 0, 1) := by decide +kernel
theorem dX7_seen_11 : decode cX7_seen 11 = .ok (.getfield 335, 3) := by decide +kernel
theorem dX7_seen_14 : decode cX7_seen 14 = .ok (.bipush 30, 2) := by decide +kernel
theorem dX7_seen_16 : decode cX7_seen 16 = .ok (.if_icmp .eq 15, 3) := by decide +kernel
theorem dX7_seen_19 : decode cX7_seen 19 = .ok (.aload_n 0, 1) := by decide +kernel
theorem dX7_seen_20 : decode cX7_seen 20 = .ok (.getfield 24, 3) := by decide +kernel
theorem dX7_seen_23 : decode cX7_seen 23 = .ok (.aload_n 0, 1) := by decide +kernel
theorem dX7_seen_24 : decode cX7_seen 24 = .ok (.getfield 214, 3) := by decide +kernel
theorem dX7_seen_27 : decode cX7_seen 27 = .ok (.iaload, 1) := by decide +kernel
theorem dX7_seen_28 : decode cX7_seen 28 = .ok (.ifCond .ne 5, 3) := by decide +kernel
theorem dX7_seen_31 : decode cX7_seen 31 = .ok (.iconst (-1), 1) := by decide +kernel
theorem dX7_seen_32 : decode cX7_seen 32 = .ok (.ireturn, 1) := by decide +kernel
theorem dX7_seen_33 : decode cX7_seen 33 = .ok (.aload_n 0, 1) := by decide +kernel
theorem dX7_seen_34 : decode cX7_seen 34 = .ok (.getfield 94, 3) := by decide +kernel
theorem dX7_seen_37 : decode cX7_seen 37 = .ok (.aload_n 0, 1) := by decide +kernel
theorem dX7_seen_38 : decode cX7_seen 38 = .ok (.getfield 335, 3) := by decide +kernel
theorem dX7_seen_41 : decode cX7_seen 41 = .ok (.iload_n 1, 1) := by decide +kernel
theorem dX7_seen_42 : decode cX7_seen 42 = .ok (.iastore, 1) := by decide +kernel
theorem dX7_seen_43 : decode cX7_seen 43 = .ok (.aload_n 0, 1) := by decide +kernel
theorem dX7_seen_44 : decode cX7_seen 44 = .ok (.getfield 97, 3) := by decide +kernel
theorem dX7_seen_47 : decode cX7_seen 47 = .ok (.aload_n 0, 1) := by decide +kernel
theorem dX7_seen_48 : decode cX7_seen 48 = .ok (.getfield 335, 3) := by decide +kernel
theorem dX7_seen_51 : decode cX7_seen 51 = .ok (.iload_n 2, 1) := by decide +kernel
theorem dX7_seen_52 : decode cX7_seen 52 = .ok (.ifCond .eq 7, 3) := by decide +kernel
theorem dX7_seen_55 : decode cX7_seen 55 = .ok (.iconst 1, 1) := by decide +kernel
theorem dX7_seen_56 : decode cX7_seen 56 = .ok (.goto 4, 3) := by decide +kernel
theorem dX7_seen_59 : decode cX7_seen 59 = .ok (.iconst 0, 1) := by decide +kernel
theorem dX7_seen_60 : decode cX7_seen 60 = .ok (.iastore, 1) := by decide +kernel
theorem dX7_seen_61 : decode cX7_seen 61 = .ok (.aload_n 0, 1) := by decide +kernel
theorem dX7_seen_62 : decode cX7_seen 62 = .ok (.getfield 100, 3) := by decide +kernel
theorem dX7_seen_65 : decode cX7_seen 65 = .ok (.aload_n 0, 1) := by decide +kernel
theorem dX7_seen_66 : decode cX7_seen 66 = .ok (.getfield 335, 3) := by decide +kernel
theorem dX7_seen_69 : decode cX7_seen 69 = .ok (.aload_n 0, 1) := by decide +kernel
theorem dX7_seen_70 : decode cX7_seen 70 = .ok (.getfield 486, 3) := by decide +kernel
theorem dX7_seen_73 : decode cX7_seen 73 = .ok (.iastore, 1) := by decide +kernel
theorem dX7_seen_74 : decode cX7_seen 74 = .ok (.aload_n 0, 1) := by decide +kernel
theorem dX7_seen_75 : decode cX7_seen 75 = .ok (.getfield 103, 3) := by decide +kernel
theorem dX7_seen_78 : decode cX7_seen 78 = .ok (.aload_n 0, 1) := by decide +kernel
theorem dX7_seen_79 : decode cX7_seen 79 = .ok (.getfield 335, 3) := by decide +kernel
theorem dX7_seen_82 : decode cX7_seen 82 = .ok (.iconst (-1), 1) := by decide +kernel
theorem dX7_seen_83 : decode cX7_seen 83 = .ok (.iastore, 1) := by decide +kernel
theorem dX7_seen_84 : decode cX7_seen 84 = .ok (.aload_n 0, 1) := by decide +kernel
theorem dX7_seen_85 : decode cX7_seen 85 = .ok (.dup, 1) := by decide +kernel
theorem dX7_seen_86 : decode cX7_seen 86 = .ok (.getfield 335, 3) := by decide +kernel
theorem dX7_seen_89 : decode cX7_seen 89 = .ok (.iconst 1, 1) := by decide +kernel
theorem dX7_seen_90 : decode cX7_seen 90 = .ok (.iadd, 1) := by decide +kernel
theorem dX7_seen_91 : decode cX7_seen 91 = .ok (.putfield 335, 3) := by decide +kernel
theorem dX7_seen_94 : decode cX7_seen 94 = .ok (.aload_n 0, 1) := by decide +kernel
theorem dX7_seen_95 : decode cX7_seen 95 = .ok (.getfield 335, 3) := by decide +kernel
theorem dX7_seen_98 : decode cX7_seen 98 = .ok (.iconst 1, 1) := by decide +kernel
theorem dX7_seen_99 : decode cX7_seen 99 = .ok (.isub, 1) := by decide +kernel
theorem dX7_seen_100 : decode cX7_seen 100 = .ok (.ireturn, 1) := by decide +kernel
theorem dX7_untell_0 : decode cX7_untell 0 = .ok (.iload_n 1, 1) := by decide +kernel
theorem dX7_untell_1 : decode cX7_untell 1 = .ok (.iconst 0, 1) := by decide +kernel
theorem dX7_untell_2 : decode cX7_untell 2 = .ok (.aload_n 0, 1) := by decide +kernel
theorem dX7_untell_3 : decode cX7_untell 3 = .ok (.getfield 335, 3) := by decide +kernel
theorem dX7_untell_6 : decode cX7_untell 6 = .ok (.iconst 1, 1) := by decide +kernel
theorem dX7_untell_7 : decode cX7_untell 7 = .ok (.isub, 1) := by decide +kernel
theorem dX7_untell_8 : decode cX7_untell 8 = .ok (.invokestatic 316, 3) := by decide +kernel
theorem dX7_untell_11 : decode cX7_untell 11 = .ok (.ifCond .eq 12, 3) := by decide +kernel
theorem dX7_untell_14 : decode cX7_untell 14 = .ok (.aload_n 0, 1) := by decide +kernel
theorem dX7_untell_15 : decode cX7_untell 15 = .ok (.getfield 103, 3) := by decide +kernel
theorem dX7_untell_18 : decode cX7_untell 18 = .ok (.iload_n 1, 1) := by decide +kernel
theorem dX7_untell_19 : decode cX7_untell 19 = .ok (.iaload, 1) := by decide +kernel
theorem dX7_untell_20 : decode cX7_untell 20 = .ok (.ifCond .lt 5, 3) := by decide +kernel
theorem dX7_untell_23 : decode cX7_untell 23 = .ok (.iconst 0, 1) := by decide +kernel
theorem dX7_untell_24 : decode cX7_untell 24 = .ok (.ireturn, 1) := by decide +kernel
theorem dX7_untell_25 : decode cX7_untell 25 = .ok (.aload_n 0, 1) := by decide +kernel
theorem dX7_untell_26 : decode cX7_untell 26 = .ok (.getfield 103, 3) := by decide +kernel
theorem dX7_untell_29 : decode cX7_untell 29 = .ok (.iload_n 1, 1) := by decide +kernel
theorem dX7_untell_30 : decode cX7_untell 30 = .ok (.aload_n 0, 1) := by decide +kernel
theorem dX7_untell_31 : decode cX7_untell 31 = .ok (.getfield 486, 3) := by decide +kernel
theorem dX7_untell_34 : decode cX7_untell 34 = .ok (.iastore, 1) := by decide +kernel
theorem dX7_untell_35 : decode cX7_untell 35 = .ok (.iconst 1, 1) := by decide +kernel
theorem dX7_untell_36 : decode cX7_untell 36 = .ok (.ireturn, 1) := by decide +kernel
theorem dX7_later_0 : decode cX7_later 0 = .ok (.iload_n 1, 1) := by decide +kernel
theorem dX7_later_1 : decode cX7_later 1 = .ok (.iconst 0, 1) := by decide +kernel
theorem dX7_later_2 : decode cX7_later 2 = .ok (.sipush 1000, 3) := by decide +kernel
theorem dX7_later_5 : decode cX7_later 5 = .ok (.invokestatic 316, 3) := by decide +kernel
theorem dX7_later_8 : decode cX7_later 8 = .ok (.ifCond .eq 15, 3) := by decide +kernel
theorem dX7_later_11 : decode cX7_later 11 = .ok (.aload_n 0, 1) := by decide +kernel
theorem dX7_later_12 : decode cX7_later 12 = .ok (.getfield 486, 3) := by decide +kernel
theorem dX7_later_15 : decode cX7_later 15 = .ok (.iload_n 1, 1) := by decide +kernel
theorem dX7_later_16 : decode cX7_later 16 = .ok (.iadd, 1) := by decide +kernel
theorem dX7_later_17 : decode cX7_later 17 = .ok (.ldc_w 422, 3) := by decide +kernel
theorem dX7_later_20 : decode cX7_later 20 = .ok (.if_icmp .le 5, 3) := by decide +kernel
theorem dX7_later_23 : decode cX7_later 23 = .ok (.iconst (-1), 1) := by decide +kernel
theorem dX7_later_24 : decode cX7_later 24 = .ok (.ireturn, 1) := by decide +kernel
theorem dX7_later_25 : decode cX7_later 25 = .ok (.aload_n 0, 1) := by decide +kernel
theorem dX7_later_26 : decode cX7_later 26 = .ok (.dup, 1) := by decide +kernel
theorem dX7_later_27 : decode cX7_later 27 = .ok (.getfield 486, 3) := by decide +kernel
theorem dX7_later_30 : decode cX7_later 30 = .ok (.iload_n 1, 1) := by decide +kernel
theorem dX7_later_31 : decode cX7_later 31 = .ok (.iadd, 1) := by decide +kernel
theorem dX7_later_32 : decode cX7_later 32 = .ok (.putfield 486, 3) := by decide +kernel
theorem dX7_later_35 : decode cX7_later 35 = .ok (.aload_n 0, 1) := by decide +kernel
theorem dX7_later_36 : decode cX7_later 36 = .ok (.getfield 486, 3) := by decide +kernel
theorem dX7_later_39 : decode cX7_later 39 = .ok (.ireturn, 1) := by decide +kernel
theorem dX7_cases_0 : decode cX7_cases 0 = .ok (.aload_n 0, 1) := by decide +kernel
theorem dX7_cases_1 : decode cX7_cases 1 = .ok (.getfield 24, 3) := by decide +kernel
theorem dX7_cases_4 : decode cX7_cases 4 = .ok (.aload_n 0, 1) := by decide +kernel
theorem dX7_cases_5 : decode cX7_cases 5 = .ok (.getfield 214, 3) := by decide +kernel
theorem dX7_cases_8 : decode cX7_cases 8 = .ok (.iaload, 1) := by decide +kernel
theorem dX7_cases_9 : decode cX7_cases 9 = .ok (.iconst 1, 1) := by decide +kernel
theorem dX7_cases_10 : decode cX7_cases 10 = .ok (.if_icmp .le 17, 3) := by decide +kernel
theorem dX7_cases_13 : decode cX7_cases 13 = .ok (.aload_n 0, 1) := by decide +kernel
theorem dX7_cases_14 : decode cX7_cases 14 = .ok (.getfield 24, 3) := by decide +kernel
theorem dX7_cases_17 : decode cX7_cases 17 = .ok (.aload_n 0, 1) := by decide +kernel
theorem dX7_cases_18 : decode cX7_cases 18 = .ok (.getfield 214, 3) := by decide +kernel
theorem dX7_cases_21 : decode cX7_cases 21 = .ok (.iaload, 1) := by decide +kernel
theorem dX7_cases_22 : decode cX7_cases 22 = .ok (.iconst 1, 1) := by decide +kernel
theorem dX7_cases_23 : decode cX7_cases 23 = .ok (.iadd, 1) := by decide +kernel
theorem dX7_cases_24 : decode cX7_cases 24 = .ok (.goto 12, 3) := by decide +kernel
theorem dX7_cases_27 : decode cX7_cases 27 = .ok (.aload_n 0, 1) := by decide +kernel
theorem dX7_cases_28 : decode cX7_cases 28 = .ok (.getfield 24, 3) := by decide +kernel
theorem dX7_cases_31 : decode cX7_cases 31 = .ok (.aload_n 0, 1) := by decide +kernel
theorem dX7_cases_32 : decode cX7_cases 32 = .ok (.getfield 214, 3) := by decide +kernel
theorem dX7_cases_35 : decode cX7_cases 35 = .ok (.iaload, 1) := by decide +kernel
theorem dX7_cases_36 : decode cX7_cases 36 = .ok (.ireturn, 1) := by decide +kernel
theorem dX7_answeredBy_0 : decode cX7_answeredBy 0 = .ok (.aload_n 0, 1) := by decide +kernel
theorem dX7_answeredBy_1 : decode cX7_answeredBy 1 = .ok (.getfield 91, 3) := by decide +kernel
theorem dX7_answeredBy_4 : decode cX7_answeredBy 4 = .ok (.bipush 61, 2) := by decide +kernel
theorem dX7_answeredBy_6 : decode cX7_answeredBy 6 = .ok (.iload_n 1, 1) := by decide +kernel
theorem dX7_answeredBy_7 : decode cX7_answeredBy 7 = .ok (.imul, 1) := by decide +kernel
theorem dX7_answeredBy_8 : decode cX7_answeredBy 8 = .ok (.iload_n 2, 1) := by decide +kernel
theorem dX7_answeredBy_9 : decode cX7_answeredBy 9 = .ok (.iadd, 1) := by decide +kernel
theorem dX7_answeredBy_10 : decode cX7_answeredBy 10 = .ok (.iaload, 1) := by decide +kernel
theorem dX7_answeredBy_11 : decode cX7_answeredBy 11 = .ok (.ireturn, 1) := by decide +kernel
theorem dX7_layAnswers_0 : decode cX7_layAnswers 0 = .ok (.aload_n 0, 1) := by decide +kernel
theorem dX7_layAnswers_1 : decode cX7_layAnswers 1 = .ok (.invokevirtual 410, 3) := by decide +kernel
theorem dX7_layAnswers_4 : decode cX7_layAnswers 4 = .ok (.iconst 0, 1) := by decide +kernel
theorem dX7_layAnswers_5 : decode cX7_layAnswers 5 = .ok (.istore_n 1, 1) := by decide +kernel
theorem dX7_layAnswers_6 : decode cX7_layAnswers 6 = .ok (.iload_n 1, 1) := by decide +kernel
theorem dX7_layAnswers_7 : decode cX7_layAnswers 7 = .ok (.aload_n 0, 1) := by decide +kernel
theorem dX7_layAnswers_8 : decode cX7_layAnswers 8 = .ok (.invokevirtual 489, 3) := by decide +kernel
theorem dX7_layAnswers_11 : decode cX7_layAnswers 11 = .ok (.if_icmp .ge 79, 3) := by decide +kernel
theorem dX7_layAnswers_14 : decode cX7_layAnswers 14 = .ok (.aload_n 0, 1) := by decide +kernel
theorem dX7_layAnswers_15 : decode cX7_layAnswers 15 = .ok (.invokevirtual 326, 3) := by decide +kernel
theorem dX7_layAnswers_18 : decode cX7_layAnswers 18 = .ok (.aload_n 0, 1) := by decide +kernel
theorem dX7_layAnswers_19 : decode cX7_layAnswers 19 = .ok (.iconst 0, 1) := by decide +kernel
theorem dX7_layAnswers_20 : decode cX7_layAnswers 20 = .ok (.invokevirtual 374, 3) := by decide +kernel
theorem dX7_layAnswers_23 : decode cX7_layAnswers 23 = .ok (.iload_n 1, 1) := by decide +kernel
theorem dX7_layAnswers_24 : decode cX7_layAnswers 24 = .ok (.ifCond .le 14, 3) := by decide +kernel
theorem dX7_layAnswers_27 : decode cX7_layAnswers 27 = .ok (.aload_n 0, 1) := by decide +kernel
theorem dX7_layAnswers_28 : decode cX7_layAnswers 28 = .ok (.aload_n 0, 1) := by decide +kernel
theorem dX7_layAnswers_29 : decode cX7_layAnswers 29 = .ok (.iload_n 1, 1) := by decide +kernel
theorem dX7_layAnswers_30 : decode cX7_layAnswers 30 = .ok (.iconst 1, 1) := by decide +kernel
theorem dX7_layAnswers_31 : decode cX7_layAnswers 31 = .ok (.isub, 1) := by decide +kernel
theorem dX7_layAnswers_32 : decode cX7_layAnswers 32 = .ok (.invokevirtual 398, 3) := by decide +kernel
theorem dX7_layAnswers_35 : decode cX7_layAnswers 35 = .ok (.putfield 395, 3) := by decide +kernel
theorem dX7_layAnswers_38 : decode cX7_layAnswers 38 = .ok (.iconst 0, 1) := by decide +kernel
theorem dX7_layAnswers_39 : decode cX7_layAnswers 39 = .ok (.istore_n 2, 1) := by decide +kernel
