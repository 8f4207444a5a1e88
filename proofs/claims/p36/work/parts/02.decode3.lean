theorem dX10_invert_3 : decode cX10_invert 3 = .ok (.invokevirtual 214, 3) := by decide +kernel
theorem dX10_invert_6 : decode cX10_invert 6 = .ok (.ifCond .ne 5, 3) := by decide +kernel
theorem dX10_invert_9 : decode cX10_invert 9 = .ok (.iconst 0, 1) := by decide +kernel
theorem dX10_invert_10 : decode cX10_invert 10 = .ok (.ireturn, 1) := by decide +kernel
theorem dX10_invert_11 : decode cX10_invert 11 = .ok (.aload_n 0, 1) := by decide +kernel
theorem dX10_invert_12 : decode cX10_invert 12 = .ok (.getfield 62, 3) := by decide +kernel
theorem dX10_invert_15 : decode cX10_invert 15 = .ok (.aload_n 0, 1) := by decide +kernel
theorem dX10_invert_16 : decode cX10_invert 16 = .ok (.getfield 98, 3) := by decide +kernel
theorem dX10_invert_19 : decode cX10_invert 19 = .ok (.aload_n 0, 1) := by decide +kernel
theorem dX10_invert_20 : decode cX10_invert 20 = .ok (.getfield 12, 3) := by decide +kernel
theorem dX10_invert_23 : decode cX10_invert 23 = .ok (.getfield 210, 3) := by decide +kernel
theorem dX10_invert_26 : decode cX10_invert 26 = .ok (.iload_n 2, 1) := by decide +kernel
theorem dX10_invert_27 : decode cX10_invert 27 = .ok (.aaload, 1) := by decide +kernel
theorem dX10_invert_28 : decode cX10_invert 28 = .ok (.invokevirtual 224, 3) := by decide +kernel
theorem dX10_invert_31 : decode cX10_invert 31 = .ok (.aload_n 0, 1) := by decide +kernel
theorem dX10_invert_32 : decode cX10_invert 32 = .ok (.iload_n 1, 1) := by decide +kernel
theorem dX10_invert_33 : decode cX10_invert 33 = .ok (.invokevirtual 221, 3) := by decide +kernel
theorem dX10_invert_36 : decode cX10_invert 36 = .ok (.ireturn, 1) := by decide +kernel
theorem dX10_feed_0 : decode cX10_feed 0 = .ok (.aload_n 0, 1) := by decide +kernel
theorem dX10_feed_1 : decode cX10_feed 1 = .ok (.getfield 38, 3) := by decide +kernel
theorem dX10_feed_4 : decode cX10_feed 4 = .ok (.sipush 180, 3) := by decide +kernel
theorem dX10_feed_7 : decode cX10_feed 7 = .ok (.if_icmp .le 5, 3) := by decide +kernel
theorem dX10_feed_10 : decode cX10_feed 10 = .ok (.iconst (-1), 1) := by decide +kernel
theorem dX10_feed_11 : decode cX10_feed 11 = .ok (.ireturn, 1) := by decide +kernel
theorem dX10_feed_12 : decode cX10_feed 12 = .ok (.aload_n 0, 1) := by decide +kernel
theorem dX10_feed_13 : decode cX10_feed 13 = .ok (.iload_n 1, 1) := by decide +kernel
theorem dX10_feed_14 : decode cX10_feed 14 = .ok (.invokevirtual 249, 3) := by decide +kernel
theorem dX10_feed_17 : decode cX10_feed 17 = .ok (.aload_n 0, 1) := by decide +kernel
theorem dX10_feed_18 : decode cX10_feed 18 = .ok (.iload_n 2, 1) := by decide +kernel
theorem dX10_feed_19 : decode cX10_feed 19 = .ok (.invokevirtual 249, 3) := by decide +kernel
theorem dX10_feed_22 : decode cX10_feed 22 = .ok (.aload_n 0, 1) := by decide +kernel
theorem dX10_feed_23 : decode cX10_feed 23 = .ok (.iload_n 3, 1) := by decide +kernel
theorem dX10_feed_24 : decode cX10_feed 24 = .ok (.invokevirtual 249, 3) := by decide +kernel
theorem dX10_feed_27 : decode cX10_feed 27 = .ok (.aload_n 0, 1) := by decide +kernel
theorem dX10_feed_28 : decode cX10_feed 28 = .ok (.iload 4, 2) := by decide +kernel
theorem dX10_feed_30 : decode cX10_feed 30 = .ok (.invokevirtual 249, 3) := by decide +kernel
theorem dX10_feed_33 : decode cX10_feed 33 = .ok (.aload_n 0, 1) := by decide +kernel
theorem dX10_feed_34 : decode cX10_feed 34 = .ok (.iload 5, 2) := by decide +kernel
theorem dX10_feed_36 : decode cX10_feed 36 = .ok (.invokevirtual 249, 3) := by decide +kernel
theorem dX10_feed_39 : decode cX10_feed 39 = .ok (.aload_n 0, 1) := by decide +kernel
theorem dX10_feed_40 : decode cX10_feed 40 = .ok (.getfield 38, 3) := by decide +kernel
theorem dX10_feed_43 : decode cX10_feed 43 = .ok (.ireturn, 1) := by decide +kernel
theorem dX10_end_0 : decode cX10_end 0 = .ok (.iload_n 1, 1) := by decide +kernel
theorem dX10_end_1 : decode cX10_end 1 = .ok (.ifCond .lt 11, 3) := by decide +kernel
theorem dX10_end_4 : decode cX10_end 4 = .ok (.iload_n 1, 1) := by decide +kernel
theorem dX10_end_5 : decode cX10_end 5 = .ok (.aload_n 0, 1) := by decide +kernel
theorem dX10_end_6 : decode cX10_end 6 = .ok (.getfield 38, 3) := by decide +kernel
theorem dX10_end_9 : decode cX10_end 9 = .ok (.if_icmp .le 5, 3) := by decide +kernel
theorem dX10_end_12 : decode cX10_end 12 = .ok (.iconst 0, 1) := by decide +kernel
theorem dX10_end_13 : decode cX10_end 13 = .ok (.ireturn, 1) := by decide +kernel
theorem dX10_end_14 : decode cX10_end 14 = .ok (.aload_n 0, 1) := by decide +kernel
theorem dX10_end_15 : decode cX10_end 15 = .ok (.iload_n 1, 1) := by decide +kernel
theorem dX10_end_16 : decode cX10_end 16 = .ok (.putfield 38, 3) := by decide +kernel
theorem dX10_end_19 : decode cX10_end 19 = .ok (.iconst 1, 1) := by decide +kernel
theorem dX10_end_20 : decode cX10_end 20 = .ok (.ireturn, 1) := by decide +kernel
theorem dX10_collect_0 : decode cX10_collect 0 = .ok (.aload_n 0, 1) := by decide +kernel
theorem dX10_collect_1 : decode cX10_collect 1 = .ok (.getfield 38, 3) := by decide +kernel
theorem dX10_collect_4 : decode cX10_collect 4 = .ok (.istore_n 1, 1) := by decide +kernel
theorem dX10_collect_5 : decode cX10_collect 5 = .ok (.aload_n 0, 1) := by decide +kernel
theorem dX10_collect_6 : decode cX10_collect 6 = .ok (.iconst 0, 1) := by decide +kernel
theorem dX10_collect_7 : decode cX10_collect 7 = .ok (.putfield 38, 3) := by decide +kernel
theorem dX10_collect_10 : decode cX10_collect 10 = .ok (.iload_n 1, 1) := by decide +kernel
theorem dX10_collect_11 : decode cX10_collect 11 = .ok (.bipush 24, 2) := by decide +kernel
theorem dX10_collect_13 : decode cX10_collect 13 = .ok (.if_icmp .le 5, 3) := by decide +kernel
theorem dX10_collect_16 : decode cX10_collect 16 = .ok (.iconst (-1), 1) := by decide +kernel
theorem dX10_collect_17 : decode cX10_collect 17 = .ok (.ireturn, 1) := by decide +kernel
theorem dX10_collect_18 : decode cX10_collect 18 = .ok (.aload_n 0, 1) := by decide +kernel
theorem dX10_collect_19 : decode cX10_collect 19 = .ok (.getfield 44, 3) := by decide +kernel
theorem dX10_collect_22 : decode cX10_collect 22 = .ok (.invokevirtual 273, 3) := by decide +kernel
theorem dX10_collect_25 : decode cX10_collect 25 = .ok (.iconst 0, 1) := by decide +kernel
theorem dX10_collect_26 : decode cX10_collect 26 = .ok (.istore_n 2, 1) := by decide +kernel
theorem dX10_collect_27 : decode cX10_collect 27 = .ok (.iload_n 2, 1) := by decide +kernel
theorem dX10_collect_28 : decode cX10_collect 28 = .ok (.iload_n 1, 1) := by decide +kernel
theorem dX10_collect_29 : decode cX10_collect 29 = .ok (.if_icmp .ge 47, 3) := by decide +kernel
theorem dX10_collect_32 : decode cX10_collect 32 = .ok (.aload_n 0, 1) := by decide +kernel
theorem dX10_collect_33 : decode cX10_collect 33 = .ok (.getfield 34, 3) := by decide +kernel
theorem dX10_collect_36 : decode cX10_collect 36 = .ok (.iload_n 2, 1) := by decide +kernel
theorem dX10_collect_37 : decode cX10_collect 37 = .ok (.iaload, 1) := by decide +kernel
theorem dX10_collect_38 : decode cX10_collect 38 = .ok (.bipush 97, 2) := by decide +kernel
theorem dX10_collect_40 : decode cX10_collect 40 = .ok (.isub, 1) := by decide +kernel
theorem dX10_collect_41 : decode cX10_collect 41 = .ok (.istore_n 3, 1) := by decide +kernel
theorem dX10_collect_42 : decode cX10_collect 42 = .ok (.iload_n 3, 1) := by decide +kernel
theorem dX10_collect_43 : decode cX10_collect 43 = .ok (.ifCond .lt 17, 3) := by decide +kernel
theorem dX10_collect_46 : decode cX10_collect 46 = .ok (.iload_n 3, 1) := by decide +kernel
theorem dX10_collect_47 : decode cX10_collect 47 = .ok (.aload_n 0, 1) := by decide +kernel
theorem dX10_collect_48 : decode cX10_collect 48 = .ok (.getfield 12, 3) := by decide +kernel
theorem dX10_collect_51 : decode cX10_collect 51 = .ok (.getfield 105, 3) := by decide +kernel
theorem dX10_collect_54 : decode cX10_collect 54 = .ok (.getfield 178, 3) := by decide +kernel
theorem dX10_collect_57 : decode cX10_collect 57 = .ok (.if_icmp .lt 5, 3) := by decide +kernel
theorem dX10_collect_60 : decode cX10_collect 60 = .ok (.iconst (-1), 1) := by decide +kernel
theorem dX10_collect_61 : decode cX10_collect 61 = .ok (.ireturn, 1) := by decide +kernel
theorem dX10_collect_62 : decode cX10_collect 62 = .ok (.aload_n 0, 1) := by decide +kernel
theorem dX10_collect_63 : decode cX10_collect 63 = .ok (.getfield 44, 3) := by decide +kernel
theorem dX10_collect_66 : decode cX10_collect 66 = .ok (.iload_n 3, 1) := by decide +kernel
theorem dX10_collect_67 : decode cX10_collect 67 = .ok (.invokevirtual 276, 3) := by decide +kernel
theorem dX10_collect_70 : decode cX10_collect 70 = .ok (.iinc 2 1, 3) := by decide +kernel
theorem dX10_collect_73 : decode cX10_collect 73 = .ok (.goto (-46), 3) := by decide +kernel
theorem dX10_collect_76 : decode cX10_collect 76 = .ok (.aload_n 0, 1) := by decide +kernel
theorem dX10_collect_77 : decode cX10_collect 77 = .ok (.getfield 44, 3) := by decide +kernel
theorem dX10_collect_80 : decode cX10_collect 80 = .ok (.aload_n 0, 1) := by decide +kernel
theorem dX10_collect_81 : decode cX10_collect 81 = .ok (.getfield 12, 3) := by decide +kernel
theorem dX10_collect_84 : decode cX10_collect 84 = .ok (.getfield 105, 3) := by decide +kernel
theorem dX10_collect_87 : decode cX10_collect 87 = .ok (.sipush 1000, 3) := by decide +kernel
theorem dX10_collect_90 : decode cX10_collect 90 = .ok (.invokevirtual 279, 3) := by decide +kernel
theorem dX10_collect_93 : decode cX10_collect 93 = .ok (.istore_n 2, 1) := by decide +kernel
theorem dX10_collect_94 : decode cX10_collect 94 = .ok (.iload_n 2, 1) := by decide +kernel
theorem dX10_collect_95 : decode cX10_collect 95 = .ok (.iconst (-1), 1) := by decide +kernel
theorem dX10_collect_96 : decode cX10_collect 96 = .ok (.if_icmp .ne 6, 3) := by decide +kernel
theorem dX10_collect_99 : decode cX10_collect 99 = .ok (.bipush (-2), 2) := by decide +kernel
theorem dX10_collect_101 : decode cX10_collect 101 = .ok (.ireturn, 1) := by decide +kernel
theorem dX10_collect_102 : decode cX10_collect 102 = .ok (.aload_n 0, 1) := by decide +kernel
theorem dX10_collect_103 : decode cX10_collect 103 = .ok (.getfield 12, 3) := by decide +kernel
theorem dX10_collect_106 : decode cX10_collect 106 = .ok (.getfield 267, 3) := by decide +kernel
theorem dX10_collect_109 : decode cX10_collect 109 = .ok (.iconst 1, 1) := by decide +kernel
theorem dX10_collect_110 : decode cX10_collect 110 = .ok (.aload_n 0, 1) := by decide +kernel
theorem dX10_collect_111 : decode cX10_collect 111 = .ok (.getfield 12, 3) := by decide +kernel
theorem dX10_collect_114 : decode cX10_collect 114 = .ok (.getfield 105, 3) := by decide +kernel
theorem dX10_collect_117 : decode cX10_collect 117 = .ok (.getfield 178, 3) := by decide +kernel
theorem dX10_collect_120 : decode cX10_collect 120 = .ok (.iastore, 1) := by decide +kernel
theorem dX10_collect_121 : decode cX10_collect 121 = .ok (.aload_n 0, 1) := by decide +kernel
theorem dX10_collect_122 : decode cX10_collect 122 = .ok (.getfield 44, 3) := by decide +kernel
theorem dX10_collect_125 : decode cX10_collect 125 = .ok (.getfield 283, 3) := by decide +kernel
theorem dX10_collect_128 : decode cX10_collect 128 = .ok (.iconst 0, 1) := by decide +kernel
theorem dX10_collect_129 : decode cX10_collect 129 = .ok (.aload_n 0, 1) := by decide +kernel
theorem dX10_collect_130 : decode cX10_collect 130 = .ok (.getfield 12, 3) := by decide +kernel
theorem dX10_collect_133 : decode cX10_collect 133 = .ok (.getfield 267, 3) := by decide +kernel
theorem dX10_collect_136 : decode cX10_collect 136 = .ok (.iconst 2, 1) := by decide +kernel
theorem dX10_collect_137 : decode cX10_collect 137 = .ok (.bipush 6, 2) := by decide +kernel
theorem dX10_collect_139 : decode cX10_collect 139 = .ok (.invokestatic 286, 3) := by decide +kernel
theorem dX10_collect_142 : decode cX10_collect 142 = .ok (.iload_n 2, 1) := by decide +kernel
theorem dX10_collect_143 : decode cX10_collect 143 = .ok (.ireturn, 1) := by decide +kernel
theorem dX10_collected_0 : decode cX10_collected 0 = .ok (.iload_n 1, 1) := by decide +kernel
theorem dX10_collected_1 : decode cX10_collected 1 = .ok (.iconst 1, 1) := by decide +kernel
theorem dX10_collected_2 : decode cX10_collected 2 = .ok (.if_icmp .lt 22, 3) := by decide +kernel
theorem dX10_collected_5 : decode cX10_collected 5 = .ok (.iload_n 1, 1) := by decide +kernel
theorem dX10_collected_6 : decode cX10_collected 6 = .ok (.aload_n 0, 1) := by decide +kernel
theorem dX10_collected_7 : decode cX10_collected 7 = .ok (.getfield 12, 3) := by decide +kernel
theorem dX10_collected_10 : decode cX10_collected 10 = .ok (.getfield 267, 3) := by decide +kernel
theorem dX10_collected_13 : decode cX10_collected 13 = .ok (.iconst 1, 1) := by decide +kernel
theorem dX10_collected_14 : decode cX10_collected 14 = .ok (.iaload, 1) := by decide +kernel
theorem dX10_collected_15 : decode cX10_collected 15 = .ok (.if_icmp .gt 9, 3) := by decide +kernel
theorem dX10_collected_18 : decode cX10_collected 18 = .ok (.iload_n 1, 1) := by decide +kernel
theorem dX10_collected_19 : decode cX10_collected 19 = .ok (.bipush 6, 2) := by decide +kernel
theorem dX10_collected_21 : decode cX10_collected 21 = .ok (.if_icmp .le 5, 3) := by decide +kernel
theorem dX10_collected_24 : decode cX10_collected 24 = .ok (.iconst (-1), 1) := by decide +kernel
theorem dX10_collected_25 : decode cX10_collected 25 = .ok (.ireturn, 1) := by decide +kernel
theorem dX10_collected_26 : decode cX10_collected 26 = .ok (.aload_n 0, 1) := by decide +kernel
theorem dX10_collected_27 : decode cX10_collected 27 = .ok (.getfield 12, 3) := by decide +kernel
theorem dX10_collected_30 : decode cX10_collected 30 = .ok (.getfield 267, 3) := by decide +kernel
theorem dX10_collected_33 : decode cX10_collected 33 = .ok (.iconst 2, 1) := by decide +kernel
theorem dX10_collected_34 : decode cX10_collected 34 = .ok (.iload_n 1, 1) := by decide +kernel
theorem dX10_collected_35 : decode cX10_collected 35 = .ok (.iadd, 1) := by decide +kernel
theorem dX10_collected_36 : decode cX10_collected 36 = .ok (.iconst 1, 1) := by decide +kernel
theorem dX10_collected_37 : decode cX10_collected 37 = .ok (.isub, 1) := by decide +kernel
theorem dX10_collected_38 : decode cX10_collected 38 = .ok (.iaload, 1) := by decide +kernel
theorem dX10_collected_39 : decode cX10_collected 39 = .ok (.ireturn, 1) := by decide +kernel
theorem dX10_exponent_0 : decode cX10_exponent 0 = .ok (.iload_n 1, 1) := by decide +kernel
theorem dX10_exponent_1 : decode cX10_exponent 1 = .ok (.invokestatic 204, 3) := by decide +kernel
theorem dX10_exponent_4 : decode cX10_exponent 4 = .ok (.ifCond .eq 11, 3) := by decide +kernel
theorem dX10_exponent_7 : decode cX10_exponent 7 = .ok (.aload_n 0, 1) := by decide +kernel
theorem dX10_exponent_8 : decode cX10_exponent 8 = .ok (.iload_n 2, 1) := by decide +kernel
theorem dX10_exponent_9 : decode cX10_exponent 9 = .ok (.invokevirtual 148, 3) := by decide +kernel
theorem dX10_exponent_12 : decode cX10_exponent 12 = .ok (.ifCond .ne 7, 3) := by decide +kernel
theorem dX10_exponent_15 : decode cX10_exponent 15 = .ok (.sipush (-10000), 3) := by decide +kernel
theorem dX10_exponent_18 : decode cX10_exponent 18 = .ok (.ireturn, 1) := by decide +kernel
theorem dX10_exponent_19 : decode cX10_exponent 19 = .ok (.aload_n 0, 1) := by decide +kernel
theorem dX10_exponent_20 : decode cX10_exponent 20 = .ok (.getfield 12, 3) := by decide +kernel
theorem dX10_exponent_23 : decode cX10_exponent 23 = .ok (.getfield 210, 3) := by decide +kernel
theorem dX10_exponent_26 : decode cX10_exponent 26 = .ok (.iload_n 1, 1) := by decide +kernel
theorem dX10_exponent_27 : decode cX10_exponent 27 = .ok (.aaload, 1) := by decide +kernel
theorem dX10_exponent_28 : decode cX10_exponent 28 = .ok (.iload_n 2, 1) := by decide +kernel
theorem dX10_exponent_29 : decode cX10_exponent 29 = .ok (.iconst 1, 1) := by decide +kernel
theorem dX10_exponent_30 : decode cX10_exponent 30 = .ok (.isub, 1) := by decide +kernel
theorem dX10_exponent_31 : decode cX10_exponent 31 = .ok (.laload, 1) := by decide +kernel
theorem dX10_exponent_32 : decode cX10_exponent 32 = .ok (.l2i, 1) := by decide +kernel
theorem dX10_exponent_33 : decode cX10_exponent 33 = .ok (.ireturn, 1) := by decide +kernel
theorem dX10_associates_0 : decode cX10_associates 0 = .ok (.aload_n 0, 1) := by decide +kernel
theorem dX10_associates_1 : decode cX10_associates 1 = .ok (.iload_n 1, 1) := by decide +kernel
theorem dX10_associates_2 : decode cX10_associates 2 = .ok (.iload_n 2, 1) := by decide +kernel
theorem dX10_associates_3 : decode cX10_associates 3 = .ok (.invokevirtual 214, 3) := by decide +kernel
theorem dX10_associates_6 : decode cX10_associates 6 = .ok (.ifCond .eq 10, 3) := by decide +kernel
theorem dX10_associates_9 : decode cX10_associates 9 = .ok (.iload_n 3, 1) := by decide +kernel
theorem dX10_associates_10 : decode cX10_associates 10 = .ok (.invokestatic 204, 3) := by decide +kernel
theorem dX10_associates_13 : decode cX10_associates 13 = .ok (.ifCond .ne 5, 3) := by decide +kernel
theorem dX10_associates_16 : decode cX10_associates 16 = .ok (.iconst (-1), 1) := by decide +kernel
theorem dX10_associates_17 : decode cX10_associates 17 = .ok (.ireturn, 1) := by decide +kernel
theorem dX10_associates_18 : decode cX10_associates 18 = .ok (.aload_n 0, 1) := by decide +kernel
theorem dX10_associates_19 : decode cX10_associates 19 = .ok (.getfield 62, 3) := by decide +kernel
theorem dX10_associates_22 : decode cX10_associates 22 = .ok (.aload_n 0, 1) := by decide +kernel
theorem dX10_associates_23 : decode cX10_associates 23 = .ok (.getfield 98, 3) := by decide +kernel
theorem dX10_associates_26 : decode cX10_associates 26 = .ok (.aload_n 0, 1) := by decide +kernel
theorem dX10_associates_27 : decode cX10_associates 27 = .ok (.getfield 12, 3) := by decide +kernel
theorem dX10_associates_30 : decode cX10_associates 30 = .ok (.getfield 210, 3) := by decide +kernel
theorem dX10_associates_33 : decode cX10_associates 33 = .ok (.iload_n 1, 1) := by decide +kernel
theorem dX10_associates_34 : decode cX10_associates 34 = .ok (.aaload, 1) := by decide +kernel
theorem dX10_associates_35 : decode cX10_associates 35 = .ok (.aload_n 0, 1) := by decide +kernel
theorem dX10_associates_36 : decode cX10_associates 36 = .ok (.getfield 12, 3) := by decide +kernel
theorem dX10_associates_39 : decode cX10_associates 39 = .ok (.getfield 210, 3) := by decide +kernel
theorem dX10_associates_42 : decode cX10_associates 42 = .ok (.iload_n 2, 1) := by decide +kernel
theorem dX10_associates_43 : decode cX10_associates 43 = .ok (.aaload, 1) := by decide +kernel
theorem dX10_associates_44 : decode cX10_associates 44 = .ok (.invokevirtual 217, 3) := by decide +kernel
theorem dX10_associates_47 : decode cX10_associates 47 = .ok (.aload_n 0, 1) := by decide +kernel
theorem dX10_associates_48 : decode cX10_associates 48 = .ok (.getfield 62, 3) := by decide +kernel
theorem dX10_associates_51 : decode cX10_associates 51 = .ok (.aload_n 0, 1) := by decide +kernel
theorem dX10_associates_52 : decode cX10_associates 52 = .ok (.getfield 98, 3) := by decide +kernel
theorem dX10_associates_55 : decode cX10_associates 55 = .ok (.aload_n 0, 1) := by decide +kernel
theorem dX10_associates_56 : decode cX10_associates 56 = .ok (.getfield 98, 3) := by decide +kernel
theorem dX10_associates_59 : decode cX10_associates 59 = .ok (.aload_n 0, 1) := by decide +kernel
theorem dX10_associates_60 : decode cX10_associates 60 = .ok (.getfield 12, 3) := by decide +kernel
theorem dX10_associates_63 : decode cX10_associates 63 = .ok (.getfield 210, 3) := by decide +kernel
theorem dX10_associates_66 : decode cX10_associates 66 = .ok (.iload_n 3, 1) := by decide +kernel
theorem dX10_associates_67 : decode cX10_associates 67 = .ok (.aaload, 1) := by decide +kernel
theorem dX10_associates_68 : decode cX10_associates 68 = .ok (.invokevirtual 217, 3) := by decide +kernel
theorem dX10_associates_71 : decode cX10_associates 71 = .ok (.aload_n 0, 1) := by decide +kernel
theorem dX10_associates_72 : decode cX10_associates 72 = .ok (.getfield 62, 3) := by decide +kernel
theorem dX10_associates_75 : decode cX10_associates 75 = .ok (.aload_n 0, 1) := by decide +kernel
theorem dX10_associates_76 : decode cX10_associates 76 = .ok (.getfield 102, 3) := by decide +kernel
theorem dX10_associates_79 : decode cX10_associates 79 = .ok (.aload_n 0, 1) := by decide +kernel
theorem dX10_associates_80 : decode cX10_associates 80 = .ok (.getfield 12, 3) := by decide +kernel
theorem dX10_associates_83 : decode cX10_associates 83 = .ok (.getfield 210, 3) := by decide +kernel
theorem dX10_associates_86 : decode cX10_associates 86 = .ok (.iload_n 2, 1) := by decide +kernel
theorem dX10_associates_87 : decode cX10_associates 87 = .ok (.aaload, 1) := by decide +kernel
theorem dX10_associates_88 : decode cX10_associates 88 = .ok (.aload_n 0, 1) := by decide +kernel
theorem dX10_associates_89 : decode cX10_associates 89 = .ok (.getfield 12, 3) := by decide +kernel
theorem dX10_associates_92 : decode cX10_associates 92 = .ok (.getfield 210, 3) := by decide +kernel
theorem dX10_associates_95 : decode cX10_associates 95 = .ok (.iload_n 3, 1) := by decide +kernel
theorem dX10_associates_96 : decode cX10_associates 96 = .ok (.aaload, 1) := by decide +kernel
theorem dX10_associates_97 : decode cX10_associates 97 = .ok (.invokevirtual 217, 3) := by decide +kernel
theorem dX10_associates_100 : decode cX10_associates 100 = .ok (.aload_n 0, 1) := by decide +kernel
theorem dX10_associates_101 : decode cX10_associates 101 = .ok (.getfield 62, 3) := by decide +kernel
theorem dX10_associates_104 : decode cX10_associates 104 = .ok (.aload_n 0, 1) := by decide +kernel
theorem dX10_associates_105 : decode cX10_associates 105 = .ok (.getfield 102, 3) := by decide +kernel
theorem dX10_associates_108 : decode cX10_associates 108 = .ok (.aload_n 0, 1) := by decide +kernel
theorem dX10_associates_109 : decode cX10_associates 109 = .ok (.getfield 12, 3) := by decide +kernel
theorem dX10_associates_112 : decode cX10_associates 112 = .ok (.getfield 210, 3) := by decide +kernel
theorem dX10_associates_115 : decode cX10_associates 115 = .ok (.iload_n 1, 1) := by decide +kernel
theorem dX10_associates_116 : decode cX10_associates 116 = .ok (.aaload, 1) := by decide +kernel
theorem dX10_associates_117 : decode cX10_associates 117 = .ok (.aload_n 0, 1) := by decide +kernel
theorem dX10_associates_118 : decode cX10_associates 118 = .ok (.getfield 102, 3) := by decide +kernel
theorem dX10_associates_121 : decode cX10_associates 121 = .ok (.invokevirtual 217, 3) := by decide +kernel
theorem dX10_associates_124 : decode cX10_associates 124 = .ok (.aload_n 0, 1) := by decide +kernel
theorem dX10_associates_125 : decode cX10_associates 125 = .ok (.getfield 98, 3) := by decide +kernel
theorem dX10_associates_128 : decode cX10_associates 128 = .ok (.aload_n 0, 1) := by decide +kernel
theorem dX10_associates_129 : decode cX10_associates 129 = .ok (.getfield 102, 3) := by decide +kernel
theorem dX10_associates_132 : decode cX10_associates 132 = .ok (.invokestatic 343, 3) := by decide +kernel
theorem dX10_associates_135 : decode cX10_associates 135 = .ok (.invokestatic 144, 3) := by decide +kernel
theorem dX10_associates_138 : decode cX10_associates 138 = .ok (.ireturn, 1) := by decide +kernel
theorem dX10_look_0 : decode cX10_look 0 = .ok (.iload_n 1, 1) := by decide +kernel
theorem dX10_look_1 : decode cX10_look 1 = .ok (.tableswitch 151 0 9 #[55, 66, 77, 88, 99, 107, 112, 117, 122, 132], 55) := by decide +kernel
theorem dX10_look_56 : decode cX10_look 56 = .ok (.aload_n 0, 1) := by decide +kernel
theorem dX10_look_57 : decode cX10_look 57 = .ok (.getfield 12, 3) := by decide +kernel
theorem dX10_look_60 : decode cX10_look 60 = .ok (.getfield 105, 3) := by decide +kernel
theorem dX10_look_63 : decode cX10_look 63 = .ok (.getfield 178, 3) := by decide +kernel
theorem dX10_look_66 : decode cX10_look 66 = .ok (.ireturn, 1) := by decide +kernel
theorem dX10_look_67 : decode cX10_look 67 = .ok (.aload_n 0, 1) := by decide +kernel
theorem dX10_look_68 : decode cX10_look 68 = .ok (.getfield 12, 3) := by decide +kernel
theorem dX10_look_71 : decode cX10_look 71 = .ok (.getfield 105, 3) := by decide +kernel
theorem dX10_look_74 : decode cX10_look 74 = .ok (.invokevirtual 357, 3) := by decide +kernel
theorem dX10_look_77 : decode cX10_look 77 = .ok (.ireturn, 1) := by decide +kernel
theorem dX10_look_78 : decode cX10_look 78 = .ok (.aload_n 0, 1) := by decide +kernel
theorem dX10_look_79 : decode cX10_look 79 = .ok (.getfield 53, 3) := by decide +kernel
theorem dX10_look_82 : decode cX10_look 82 = .ok (.getfield 141, 3) := by decide +kernel
theorem dX10_look_85 : decode cX10_look 85 = .ok (.invokestatic 144, 3) := by decide +kernel
theorem dX10_look_88 : decode cX10_look 88 = .ok (.ireturn, 1) := by decide +kernel
theorem dX10_look_89 : decode cX10_look 89 = .ok (.aload_n 0, 1) := by decide +kernel
theorem dX10_look_90 : decode cX10_look 90 = .ok (.getfield 12, 3) := by decide +kernel
theorem dX10_look_93 : decode cX10_look 93 = .ok (.getfield 105, 3) := by decide +kernel
theorem dX10_look_96 : decode cX10_look 96 = .ok (.invokevirtual 360, 3) := by decide +kernel
theorem dX10_look_99 : decode cX10_look 99 = .ok (.ireturn, 1) := by decide +kernel
theorem dX10_look_100 : decode cX10_look 100 = .ok (.aload_n 0, 1) := by decide +kernel
theorem dX10_look_101 : decode cX10_look 101 = .ok (.getfield 53, 3) := by decide +kernel
theorem dX10_look_104 : decode cX10_look 104 = .ok (.invokevirtual 363, 3) := by decide +kernel
theorem dX10_look_107 : decode cX10_look 107 = .ok (.ireturn, 1) := by decide +kernel
theorem dX10_look_108 : decode cX10_look 108 = .ok (.aload_n 0, 1) := by decide +kernel
theorem dX10_look_109 : decode cX10_look 109 = .ok (.invokevirtual 366, 3) := by decide +kernel
theorem dX10_look_112 : decode cX10_look 112 = .ok (.ireturn, 1) := by decide +kernel
theorem dX10_look_113 : decode cX10_look 113 = .ok (.aload_n 0, 1) := by decide +kernel
theorem dX10_look_114 : decode cX10_look 114 = .ok (.getfield 27, 3) := by decide +kernel
theorem dX10_look_117 : decode cX10_look 117 = .ok (.ireturn, 1) := by decide +kernel
theorem dX10_look_118 : decode cX10_look 118 = .ok (.aload_n 0, 1) := by decide +kernel
theorem dX10_look_119 : decode cX10_look 119 = .ok (.getfield 38, 3) := by decide +kernel
theorem dX10_look_122 : decode cX10_look 122 = .ok (.ireturn, 1) := by decide +kernel
theorem dX10_look_123 : decode cX10_look 123 = .ok (.aload_n 0, 1) := by decide +kernel
theorem dX10_look_124 : decode cX10_look 124 = .ok (.getfield 12, 3) := by decide +kernel
theorem dX10_look_127 : decode cX10_look 127 = .ok (.getfield 267, 3) := by decide +kernel
theorem dX10_look_130 : decode cX10_look 130 = .ok (.iconst 0, 1) := by decide +kernel
theorem dX10_look_131 : decode cX10_look 131 = .ok (.iaload, 1) := by decide +kernel
theorem dX10_look_132 : decode cX10_look 132 = .ok (.ireturn, 1) := by decide +kernel
theorem dX10_look_133 : decode cX10_look 133 = .ok (.aload_n 0, 1) := by decide +kernel
theorem dX10_look_134 : decode cX10_look 134 = .ok (.getfield 53, 3) := by decide +kernel
theorem dX10_look_137 : decode cX10_look 137 = .ok (.getfield 141, 3) := by decide +kernel
theorem dX10_look_140 : decode cX10_look 140 = .ok (.ifCond .eq 10, 3) := by decide +kernel
theorem dX10_look_143 : decode cX10_look 143 = .ok (.aload_n 0, 1) := by decide +kernel
theorem dX10_look_144 : decode cX10_look 144 = .ok (.invokevirtual 369, 3) := by decide +kernel
theorem dX10_look_147 : decode cX10_look 147 = .ok (.goto 4, 3) := by decide +kernel
theorem dX10_look_150 : decode cX10_look 150 = .ok (.iconst 0, 1) := by decide +kernel
theorem dX10_look_151 : decode cX10_look 151 = .ok (.ireturn, 1) := by decide +kernel
theorem dX10_look_152 : decode cX10_look 152 = .ok (.iconst (-1), 1) := by decide +kernel
theorem dX10_look_153 : decode cX10_look 153 = .ok (.ireturn, 1) := by decide +kernel
theorem dX10_bit_0 : decode cX10_bit 0 = .ok (.iload_n 0, 1) := by decide +kernel
theorem dX10_bit_1 : decode cX10_bit 1 = .ok (.ifCond .eq 7, 3) := by decide +kernel
theorem dX10_bit_4 : decode cX10_bit 4 = .ok (.iconst 1, 1) := by decide +kernel
theorem dX10_bit_5 : decode cX10_bit 5 = .ok (.goto 4, 3) := by decide +kernel
theorem dX10_bit_8 : decode cX10_bit 8 = .ok (.iconst 0, 1) := by decide +kernel
theorem dX10_bit_9 : decode cX10_bit 9 = .ok (.ireturn, 1) := by decide +kernel
theorem dX10_degree_0 : decode cX10_degree 0 = .ok (.iload_n 0, 1) := by decide +kernel
theorem dX10_degree_1 : decode cX10_degree 1 = .ok (.iconst 2, 1) := by decide +kernel
theorem dX10_degree_2 : decode cX10_degree 2 = .ok (.bipush 11, 2) := by decide +kernel
theorem dX10_degree_4 : decode cX10_degree 4 = .ok (.iload_n 1, 1) := by decide +kernel
theorem dX10_degree_5 : decode cX10_degree 5 = .ok (.isub, 1) := by decide +kernel
theorem dX10_degree_6 : decode cX10_degree 6 = .ok (.imul, 1) := by decide +kernel
theorem dX10_degree_7 : decode cX10_degree 7 = .ok (.ishr, 1) := by decide +kernel
theorem dX10_degree_8 : decode cX10_degree 8 = .ok (.iconst 3, 1) := by decide +kernel
theorem dX10_degree_9 : decode cX10_degree 9 = .ok (.iand, 1) := by decide +kernel
theorem dX10_degree_10 : decode cX10_degree 10 = .ok (.ireturn, 1) := by decide +kernel
theorem dX10_isRegister_0 : decode cX10_isRegister 0 = .ok (.iload_n 0, 1) := by decide +kernel
theorem dX10_isRegister_1 : decode cX10_isRegister 1 = .ok (.ifCond .lt 13, 3) := by decide +kernel
theorem dX10_isRegister_4 : decode cX10_isRegister 4 = .ok (.iload_n 0, 1) := by decide +kernel
theorem dX10_isRegister_5 : decode cX10_isRegister 5 = .ok (.bipush 10, 2) := by decide +kernel
theorem dX10_isRegister_7 : decode cX10_isRegister 7 = .ok (.if_icmp .ge 7, 3) := by decide +kernel
theorem dX10_isRegister_10 : decode cX10_isRegister 10 = .ok (.iconst 1, 1) := by decide +kernel
theorem dX10_isRegister_11 : decode cX10_isRegister 11 = .ok (.goto 4, 3) := by decide +kernel
theorem dX10_isRegister_14 : decode cX10_isRegister 14 = .ok (.iconst 0, 1) := by decide +kernel
theorem dX10_isRegister_15 : decode cX10_isRegister 15 = .ok (.ireturn, 1) := by decide +kernel
theorem dX10_areUsable_0 : decode cX10_areUsable 0 = .ok (.iload_n 1, 1) := by decide +kernel
theorem dX10_areUsable_1 : decode cX10_areUsable 1 = .ok (.invokestatic 204, 3) := by decide +kernel
theorem dX10_areUsable_4 : decode cX10_areUsable 4 = .ok (.ifCond .eq 24, 3) := by decide +kernel
theorem dX10_areUsable_7 : decode cX10_areUsable 7 = .ok (.iload_n 2, 1) := by decide +kernel
theorem dX10_areUsable_8 : decode cX10_areUsable 8 = .ok (.invokestatic 204, 3) := by decide +kernel
theorem dX10_areUsable_11 : decode cX10_areUsable 11 = .ok (.ifCond .eq 17, 3) := by decide +kernel
theorem dX10_areUsable_14 : decode cX10_areUsable 14 = .ok (.aload_n 0, 1) := by decide +kernel
theorem dX10_areUsable_15 : decode cX10_areUsable 15 = .ok (.getfield 53, 3) := by decide +kernel
theorem dX10_areUsable_18 : decode cX10_areUsable 18 = .ok (.getfield 141, 3) := by decide +kernel
theorem dX10_areUsable_21 : decode cX10_areUsable 21 = .ok (.ifCond .eq 7, 3) := by decide +kernel
theorem dX10_areUsable_24 : decode cX10_areUsable 24 = .ok (.iconst 1, 1) := by decide +kernel
theorem dX10_areUsable_25 : decode cX10_areUsable 25 = .ok (.goto 4, 3) := by decide +kernel
theorem dX10_areUsable_28 : decode cX10_areUsable 28 = .ok (.iconst 0, 1) := by decide +kernel
theorem dX10_areUsable_29 : decode cX10_areUsable 29 = .ok (.ireturn, 1) := by decide +kernel
theorem dX10_isGenerator_0 : decode cX10_isGenerator 0 = .ok (.iload_n 1, 1) := by decide +kernel
theorem dX10_isGenerator_1 : decode cX10_isGenerator 1 = .ok (.iconst 1, 1) := by decide +kernel
theorem dX10_isGenerator_2 : decode cX10_isGenerator 2 = .ok (.if_icmp .lt 21, 3) := by decide +kernel
theorem dX10_isGenerator_5 : decode cX10_isGenerator 5 = .ok (.iload_n 1, 1) := by decide +kernel
theorem dX10_isGenerator_6 : decode cX10_isGenerator 6 = .ok (.aload_n 0, 1) := by decide +kernel
theorem dX10_isGenerator_7 : decode cX10_isGenerator 7 = .ok (.getfield 12, 3) := by decide +kernel
theorem dX10_isGenerator_10 : decode cX10_isGenerator 10 = .ok (.getfield 105, 3) := by decide +kernel
theorem dX10_isGenerator_13 : decode cX10_isGenerator 13 = .ok (.getfield 178, 3) := by decide +kernel
theorem dX10_isGenerator_16 : decode cX10_isGenerator 16 = .ok (.if_icmp .gt 7, 3) := by decide +kernel
theorem dX10_isGenerator_19 : decode cX10_isGenerator 19 = .ok (.iconst 1, 1) := by decide +kernel
theorem dX10_isGenerator_20 : decode cX10_isGenerator 20 = .ok (.goto 4, 3) := by decide +kernel
theorem dX10_isGenerator_23 : decode cX10_isGenerator 23 = .ok (.iconst 0, 1) := by decide +kernel
theorem dX10_isGenerator_24 : decode cX10_isGenerator 24 = .ok (.ireturn, 1) := by decide +kernel
theorem dX10_hasPolynomial_0 : decode cX10_hasPolynomial 0 = .ok (.aload_n 0, 1) := by decide +kernel
theorem dX10_hasPolynomial_1 : decode cX10_hasPolynomial 1 = .ok (.iload_n 1, 1) := by decide +kernel
theorem dX10_hasPolynomial_2 : decode cX10_hasPolynomial 2 = .ok (.invokevirtual 148, 3) := by decide +kernel
theorem dX10_hasPolynomial_5 : decode cX10_hasPolynomial 5 = .ok (.ifCond .eq 17, 3) := by decide +kernel
theorem dX10_hasPolynomial_8 : decode cX10_hasPolynomial 8 = .ok (.aload_n 0, 1) := by decide +kernel
theorem dX10_hasPolynomial_9 : decode cX10_hasPolynomial 9 = .ok (.getfield 53, 3) := by decide +kernel
theorem dX10_hasPolynomial_12 : decode cX10_hasPolynomial 12 = .ok (.getfield 141, 3) := by decide +kernel
theorem dX10_hasPolynomial_15 : decode cX10_hasPolynomial 15 = .ok (.ifCond .eq 7, 3) := by decide +kernel
theorem dX10_hasPolynomial_18 : decode cX10_hasPolynomial 18 = .ok (.iconst 1, 1) := by decide +kernel
theorem dX10_hasPolynomial_19 : decode cX10_hasPolynomial 19 = .ok (.goto 4, 3) := by decide +kernel
theorem dX10_hasPolynomial_22 : decode cX10_hasPolynomial 22 = .ok (.iconst 0, 1) := by decide +kernel
theorem dX10_hasPolynomial_23 : decode cX10_hasPolynomial 23 = .ok (.ireturn, 1) := by decide +kernel
theorem dX10_beginAct_0 : decode cX10_beginAct 0 = .ok (.aload_n 0, 1) := by decide +kernel
theorem dX10_beginAct_1 : decode cX10_beginAct 1 = .ok (.getfield 23, 3) := by decide +kernel
theorem dX10_beginAct_4 : decode cX10_beginAct 4 = .ok (.aload_n 0, 1) := by decide +kernel
theorem dX10_beginAct_5 : decode cX10_beginAct 5 = .ok (.getfield 31, 3) := by decide +kernel
theorem dX10_beginAct_8 : decode cX10_beginAct 8 = .ok (.aaload, 1) := by decide +kernel
theorem dX10_beginAct_9 : decode cX10_beginAct 9 = .ok (.aload_n 0, 1) := by decide +kernel
theorem dX10_beginAct_10 : decode cX10_beginAct 10 = .ok (.getfield 12, 3) := by decide +kernel
theorem dX10_beginAct_13 : decode cX10_beginAct 13 = .ok (.invokevirtual 350, 3) := by decide +kernel
theorem dX10_beginAct_16 : decode cX10_beginAct 16 = .ok (.aload_n 0, 1) := by decide +kernel
theorem dX10_beginAct_17 : decode cX10_beginAct 17 = .ok (.aload_n 0, 1) := by decide +kernel
theorem dX10_beginAct_18 : decode cX10_beginAct 18 = .ok (.getfield 31, 3) := by decide +kernel
theorem dX10_beginAct_21 : decode cX10_beginAct 21 = .ok (.iconst 1, 1) := by decide +kernel
theorem dX10_beginAct_22 : decode cX10_beginAct 22 = .ok (.iadd, 1) := by decide +kernel
theorem dX10_beginAct_23 : decode cX10_beginAct 23 = .ok (.bipush 8, 2) := by decide +kernel
theorem dX10_beginAct_25 : decode cX10_beginAct 25 = .ok (.irem, 1) := by decide +kernel
theorem dX10_beginAct_26 : decode cX10_beginAct 26 = .ok (.putfield 31, 3) := by decide +kernel
theorem dX10_beginAct_29 : decode cX10_beginAct 29 = .ok (.aload_n 0, 1) := by decide +kernel
theorem dX10_beginAct_30 : decode cX10_beginAct 30 = .ok (.aload_n 0, 1) := by decide +kernel
theorem dX10_beginAct_31 : decode cX10_beginAct 31 = .ok (.getfield 27, 3) := by decide +kernel
theorem dX10_beginAct_34 : decode cX10_beginAct 34 = .ok (.iconst 1, 1) := by decide +kernel
theorem dX10_beginAct_35 : decode cX10_beginAct 35 = .ok (.iadd, 1) := by decide +kernel
theorem dX10_beginAct_36 : decode cX10_beginAct 36 = .ok (.bipush 8, 2) := by decide +kernel
theorem dX10_beginAct_38 : decode cX10_beginAct 38 = .ok (.invokestatic 372, 3) := by decide +kernel
theorem dX10_beginAct_41 : decode cX10_beginAct 41 = .ok (.putfield 27, 3) := by decide +kernel
theorem dX10_beginAct_44 : decode cX10_beginAct 44 = .ok (.return_, 1) := by decide +kernel
theorem dX10_beginGroupAct_0 : decode cX10_beginGroupAct 0 = .ok (.aload_n 0, 1) := by decide +kernel
theorem dX10_beginGroupAct_1 : decode cX10_beginGroupAct 1 = .ok (.invokevirtual 207, 3) := by decide +kernel
theorem dX10_beginGroupAct_4 : decode cX10_beginGroupAct 4 = .ok (.aload_n 0, 1) := by decide +kernel
theorem dX10_beginGroupAct_5 : decode cX10_beginGroupAct 5 = .ok (.getfield 12, 3) := by decide +kernel
theorem dX10_beginGroupAct_8 : decode cX10_beginGroupAct 8 = .ok (.invokevirtual 377, 3) := by decide +kernel
theorem dX10_beginGroupAct_11 : decode cX10_beginGroupAct 11 = .ok (.return_, 1) := by decide +kernel
theorem dX10_keep_0 : decode cX10_keep 0 = .ok (.iload_n 1, 1) := by decide +kernel
theorem dX10_keep_1 : decode cX10_keep 1 = .ok (.invokestatic 204, 3) := by decide +kernel
theorem dX10_keep_4 : decode cX10_keep 4 = .ok (.ifCond .eq 16, 3) := by decide +kernel
theorem dX10_keep_7 : decode cX10_keep 7 = .ok (.aload_n 0, 1) := by decide +kernel
theorem dX10_keep_8 : decode cX10_keep 8 = .ok (.getfield 98, 3) := by decide +kernel
theorem dX10_keep_11 : decode cX10_keep 11 = .ok (.ldc2_w 380, 3) := by decide +kernel
theorem dX10_keep_14 : decode cX10_keep 14 = .ok (.invokestatic 326, 3) := by decide +kernel
theorem dX10_keep_17 : decode cX10_keep 17 = .ok (.ifCond .ne 5, 3) := by decide +kernel
theorem dX10_keep_20 : decode cX10_keep 20 = .ok (.iconst 0, 1) := by decide +kernel
theorem dX10_keep_21 : decode cX10_keep 21 = .ok (.ireturn, 1) := by decide +kernel
theorem dX10_keep_22 : decode cX10_keep 22 = .ok (.aload_n 0, 1) := by decide +kernel
theorem dX10_keep_23 : decode cX10_keep 23 = .ok (.invokevirtual 207, 3) := by decide +kernel
theorem dX10_keep_26 : decode cX10_keep 26 = .ok (.aload_n 0, 1) := by decide +kernel
theorem dX10_keep_27 : decode cX10_keep 27 = .ok (.getfield 98, 3) := by decide +kernel
theorem dX10_keep_30 : decode cX10_keep 30 = .ok (.aload_n 0, 1) := by decide +kernel
theorem dX10_keep_31 : decode cX10_keep 31 = .ok (.getfield 12, 3) := by decide +kernel
theorem dX10_keep_34 : decode cX10_keep 34 = .ok (.getfield 210, 3) := by decide +kernel
theorem dX10_keep_37 : decode cX10_keep 37 = .ok (.iload_n 1, 1) := by decide +kernel
theorem dX10_keep_38 : decode cX10_keep 38 = .ok (.aaload, 1) := by decide +kernel
theorem dX10_keep_39 : decode cX10_keep 39 = .ok (.invokestatic 261, 3) := by decide +kernel
theorem dX10_keep_42 : decode cX10_keep 42 = .ok (.iconst 1, 1) := by decide +kernel
theorem dX10_keep_43 : decode cX10_keep 43 = .ok (.ireturn, 1) := by decide +kernel
theorem dX10_keepCounted_0 : decode cX10_keepCounted 0 = .ok (.aload_n 0, 1) := by decide +kernel
theorem dX10_keepCounted_1 : decode cX10_keepCounted 1 = .ok (.getfield 98, 3) := by decide +kernel
theorem dX10_keepCounted_4 : decode cX10_keepCounted 4 = .ok (.ldc2_w 380, 3) := by decide +kernel
theorem dX10_keepCounted_7 : decode cX10_keepCounted 7 = .ok (.invokestatic 326, 3) := by decide +kernel
theorem dX10_keepCounted_10 : decode cX10_keepCounted 10 = .ok (.ifCond .ne 18, 3) := by decide +kernel
theorem dX10_keepCounted_13 : decode cX10_keepCounted 13 = .ok (.aload_n 0, 1) := by decide +kernel
theorem dX10_keepCounted_14 : decode cX10_keepCounted 14 = .ok (.getfield 12, 3) := by decide +kernel
theorem dX10_keepCounted_17 : decode cX10_keepCounted 17 = .ok (.getfield 267, 3) := by decide +kernel
theorem dX10_keepCounted_20 : decode cX10_keepCounted 20 = .ok (.iconst 0, 1) := by decide +kernel
theorem dX10_keepCounted_21 : decode cX10_keepCounted 21 = .ok (.dup2, 1) := by decide +kernel
theorem dX10_keepCounted_22 : decode cX10_keepCounted 22 = .ok (.iaload, 1) := by decide +kernel
theorem dX10_keepCounted_23 : decode cX10_keepCounted 23 = .ok (.iconst 1, 1) := by decide +kernel
theorem dX10_keepCounted_24 : decode cX10_keepCounted 24 = .ok (.iadd, 1) := by decide +kernel
theorem dX10_keepCounted_25 : decode cX10_keepCounted 25 = .ok (.iastore, 1) := by decide +kernel
theorem dX10_keepCounted_26 : decode cX10_keepCounted 26 = .ok (.iconst 0, 1) := by decide +kernel
theorem dX10_keepCounted_27 : decode cX10_keepCounted 27 = .ok (.ireturn, 1) := by decide +kernel
theorem dX10_keepCounted_28 : decode cX10_keepCounted 28 = .ok (.aload_n 0, 1) := by decide +kernel
theorem dX10_keepCounted_29 : decode cX10_keepCounted 29 = .ok (.iload_n 1, 1) := by decide +kernel
theorem dX10_keepCounted_30 : decode cX10_keepCounted 30 = .ok (.invokevirtual 242, 3) := by decide +kernel
theorem dX10_keepCounted_33 : decode cX10_keepCounted 33 = .ok (.ireturn, 1) := by decide +kernel
theorem dX10_feedNumber_0 : decode cX10_feedNumber 0 = .ok (.bipush 24, 2) := by decide +kernel
theorem dX10_feedNumber_2 : decode cX10_feedNumber 2 = .ok (.istore_n 2, 1) := by decide +kernel
theorem dX10_feedNumber_3 : decode cX10_feedNumber 3 = .ok (.iload_n 2, 1) := by decide +kernel
theorem dX10_feedNumber_4 : decode cX10_feedNumber 4 = .ok (.ifCond .lt 45, 3) := by decide +kernel
theorem dX10_feedNumber_7 : decode cX10_feedNumber 7 = .ok (.aload_n 0, 1) := by decide +kernel
theorem dX10_feedNumber_8 : decode cX10_feedNumber 8 = .ok (.getfield 38, 3) := by decide +kernel
theorem dX10_feedNumber_11 : decode cX10_feedNumber 11 = .ok (.sipush 200, 3) := by decide +kernel
theorem dX10_feedNumber_14 : decode cX10_feedNumber 14 = .ok (.if_icmp .ge 35, 3) := by decide +kernel
theorem dX10_feedNumber_17 : decode cX10_feedNumber 17 = .ok (.aload_n 0, 1) := by decide +kernel
theorem dX10_feedNumber_18 : decode cX10_feedNumber 18 = .ok (.getfield 34, 3) := by decide +kernel
theorem dX10_feedNumber_21 : decode cX10_feedNumber 21 = .ok (.aload_n 0, 1) := by decide +kernel
theorem dX10_feedNumber_22 : decode cX10_feedNumber 22 = .ok (.getfield 38, 3) := by decide +kernel
theorem dX10_feedNumber_25 : decode cX10_feedNumber 25 = .ok (.iload_n 1, 1) := by decide +kernel
theorem dX10_feedNumber_26 : decode cX10_feedNumber 26 = .ok (.iload_n 2, 1) := by decide +kernel
theorem dX10_feedNumber_27 : decode cX10_feedNumber 27 = .ok (.ishr, 1) := by decide +kernel
theorem dX10_feedNumber_28 : decode cX10_feedNumber 28 = .ok (.sipush 255, 3) := by decide +kernel
theorem dX10_feedNumber_31 : decode cX10_feedNumber 31 = .ok (.iand, 1) := by decide +kernel
theorem dX10_feedNumber_32 : decode cX10_feedNumber 32 = .ok (.iastore, 1) := by decide +kernel
theorem dX10_feedNumber_33 : decode cX10_feedNumber 33 = .ok (.aload_n 0, 1) := by decide +kernel
theorem dX10_feedNumber_34 : decode cX10_feedNumber 34 = .ok (.dup, 1) := by decide +kernel
theorem dX10_feedNumber_35 : decode cX10_feedNumber 35 = .ok (.getfield 38, 3) := by decide +kernel
theorem dX10_feedNumber_38 : decode cX10_feedNumber 38 = .ok (.iconst 1, 1) := by decide +kernel
theorem dX10_feedNumber_39 : decode cX10_feedNumber 39 = .ok (.iadd, 1) := by decide +kernel
theorem dX10_feedNumber_40 : decode cX10_feedNumber 40 = .ok (.putfield 38, 3) := by decide +kernel
theorem dX10_feedNumber_43 : decode cX10_feedNumber 43 = .ok (.iinc 2 (-8), 3) := by decide +kernel
theorem dX10_feedNumber_46 : decode cX10_feedNumber 46 = .ok (.goto (-43), 3) := by decide +kernel
theorem dX10_feedNumber_49 : decode cX10_feedNumber 49 = .ok (.return_, 1) := by decide +kernel
theorem dX10_registersNotOne_0 : decode cX10_registersNotOne 0 = .ok (.iconst 0, 1) := by decide +kernel
theorem dX10_registersNotOne_1 : decode cX10_registersNotOne 1 = .ok (.istore_n 1, 1) := by decide +kernel
theorem dX10_registersNotOne_2 : decode cX10_registersNotOne 2 = .ok (.iconst 0, 1) := by decide +kernel
theorem dX10_registersNotOne_3 : decode cX10_registersNotOne 3 = .ok (.istore_n 2, 1) := by decide +kernel
theorem dX10_registersNotOne_4 : decode cX10_registersNotOne 4 = .ok (.iload_n 2, 1) := by decide +kernel
theorem dX10_registersNotOne_5 : decode cX10_registersNotOne 5 = .ok (.bipush 10, 2) := by decide +kernel
theorem dX10_registersNotOne_7 : decode cX10_registersNotOne 7 = .ok (.if_icmp .ge 30, 3) := by decide +kernel
theorem dX10_registersNotOne_10 : decode cX10_registersNotOne 10 = .ok (.aload_n 0, 1) := by decide +kernel
theorem dX10_registersNotOne_11 : decode cX10_registersNotOne 11 = .ok (.getfield 12, 3) := by decide +kernel
theorem dX10_registersNotOne_14 : decode cX10_registersNotOne 14 = .ok (.getfield 210, 3) := by decide +kernel
theorem dX10_registersNotOne_17 : decode cX10_registersNotOne 17 = .ok (.iload_n 2, 1) := by decide +kernel
theorem dX10_registersNotOne_18 : decode cX10_registersNotOne 18 = .ok (.aaload, 1) := by decide +kernel
theorem dX10_registersNotOne_19 : decode cX10_registersNotOne 19 = .ok (.invokestatic 300, 3) := by decide +kernel
theorem dX10_registersNotOne_22 : decode cX10_registersNotOne 22 = .ok (.ifCond .ne 9, 3) := by decide +kernel
theorem dX10_registersNotOne_25 : decode cX10_registersNotOne 25 = .ok (.iload_n 1, 1) := by decide +kernel
theorem dX10_registersNotOne_26 : decode cX10_registersNotOne 26 = .ok (.iconst 1, 1) := by decide +kernel
theorem dX10_registersNotOne_27 : decode cX10_registersNotOne 27 = .ok (.iload_n 2, 1) := by decide +kernel
theorem dX10_registersNotOne_28 : decode cX10_registersNotOne 28 = .ok (.ishl, 1) := by decide +kernel
theorem dX10_registersNotOne_29 : decode cX10_registersNotOne 29 = .ok (.ior, 1) := by decide +kernel
theorem dX10_registersNotOne_30 : decode cX10_registersNotOne 30 = .ok (.istore_n 1, 1) := by decide +kernel
theorem dX10_registersNotOne_31 : decode cX10_registersNotOne 31 = .ok (.iinc 2 1, 3) := by decide +kernel
theorem dX10_registersNotOne_34 : decode cX10_registersNotOne 34 = .ok (.goto (-30), 3) := by decide +kernel
theorem dX10_registersNotOne_37 : decode cX10_registersNotOne 37 = .ok (.iload_n 1, 1) := by decide +kernel
theorem dX10_registersNotOne_38 : decode cX10_registersNotOne 38 = .ok (.ireturn, 1) := by decide +kernel
theorem dX10_centralGenerators_0 : decode cX10_centralGenerators 0 = .ok (.iconst 0, 1) := by decide +kernel
theorem dX10_centralGenerators_1 : decode cX10_centralGenerators 1 = .ok (.istore_n 1, 1) := by decide +kernel
theorem dX10_centralGenerators_2 : decode cX10_centralGenerators 2 = .ok (.iconst 0, 1) := by decide +kernel
theorem dX10_centralGenerators_3 : decode cX10_centralGenerators 3 = .ok (.istore_n 2, 1) := by decide +kernel
theorem dX10_centralGenerators_4 : decode cX10_centralGenerators 4 = .ok (.iload_n 2, 1) := by decide +kernel
theorem dX10_centralGenerators_5 : decode cX10_centralGenerators 5 = .ok (.aload_n 0, 1) := by decide +kernel
theorem dX10_centralGenerators_6 : decode cX10_centralGenerators 6 = .ok (.getfield 12, 3) := by decide +kernel
theorem dX10_centralGenerators_9 : decode cX10_centralGenerators 9 = .ok (.getfield 105, 3) := by decide +kernel
theorem dX10_centralGenerators_12 : decode cX10_centralGenerators 12 = .ok (.getfield 178, 3) := by decide +kernel
theorem dX10_centralGenerators_15 : decode cX10_centralGenerators 15 = .ok (.if_icmp .ge 29, 3) := by decide +kernel
theorem dX10_centralGenerators_18 : decode cX10_centralGenerators 18 = .ok (.aload_n 0, 1) := by decide +kernel
theorem dX10_centralGenerators_19 : decode cX10_centralGenerators 19 = .ok (.getfield 12, 3) := by decide +kernel
theorem dX10_centralGenerators_22 : decode cX10_centralGenerators 22 = .ok (.getfield 105, 3) := by decide +kernel
theorem dX10_centralGenerators_25 : decode cX10_centralGenerators 25 = .ok (.iload_n 2, 1) := by decide +kernel
theorem dX10_centralGenerators_26 : decode cX10_centralGenerators 26 = .ok (.invokevirtual 155, 3) := by decide +kernel
theorem dX10_centralGenerators_29 : decode cX10_centralGenerators 29 = .ok (.ifCond .eq 9, 3) := by decide +kernel
theorem dX10_centralGenerators_32 : decode cX10_centralGenerators 32 = .ok (.iload_n 1, 1) := by decide +kernel
theorem dX10_centralGenerators_33 : decode cX10_centralGenerators 33 = .ok (.iconst 1, 1) := by decide +kernel
theorem dX10_centralGenerators_34 : decode cX10_centralGenerators 34 = .ok (.iload_n 2, 1) := by decide +kernel
theorem dX10_centralGenerators_35 : decode cX10_centralGenerators 35 = .ok (.ishl, 1) := by decide +kernel
theorem dX10_centralGenerators_36 : decode cX10_centralGenerators 36 = .ok (.ior, 1) := by decide +kernel
theorem dX10_centralGenerators_37 : decode cX10_centralGenerators 37 = .ok (.istore_n 1, 1) := by decide +kernel
theorem dX10_centralGenerators_38 : decode cX10_centralGenerators 38 = .ok (.iinc 2 1, 3) := by decide +kernel
theorem dX10_centralGenerators_41 : decode cX10_centralGenerators 41 = .ok (.goto (-37), 3) := by decide +kernel
theorem dX10_centralGenerators_44 : decode cX10_centralGenerators 44 = .ok (.iload_n 1, 1) := by decide +kernel
theorem dX10_centralGenerators_45 : decode cX10_centralGenerators 45 = .ok (.ireturn, 1) := by decide +kernel
theorem dJ5_init_d00df_0 : decode cJ5_init_d00df 0 = .ok (.aload_n 0, 1) := by decide +kernel
theorem dJ5_init_d00df_1 : decode cJ5_init_d00df 1 = .ok (.invokespecial 3, 3) := by decide +kernel
theorem dJ5_init_d00df_4 : decode cJ5_init_d00df 4 = .ok (.getstatic 18, 3) := by decide +kernel
theorem dJ5_init_d00df_7 : decode cJ5_init_d00df 7 = .ok (.ifCond .eq 18, 3) := by decide +kernel
theorem dJ5_init_d00df_10 : decode cJ5_init_d00df 10 = .ok (.aload_n 0, 1) := by decide +kernel
theorem dJ5_init_d00df_11 : decode cJ5_init_d00df 11 = .ok (.iload_n 1, 1) := by decide +kernel
theorem dJ5_init_d00df_12 : decode cJ5_init_d00df 12 = .ok (.newarray .byte, 2) := by decide +kernel
theorem dJ5_init_d00df_14 : decode cJ5_init_d00df 14 = .ok (.putfield 15, 3) := by decide +kernel
theorem dJ5_init_d00df_17 : decode cJ5_init_d00df 17 = .ok (.aload_n 0, 1) := by decide +kernel
theorem dJ5_init_d00df_18 : decode cJ5_init_d00df 18 = .ok (.iconst 0, 1) := by decide +kernel
theorem dJ5_init_d00df_19 : decode cJ5_init_d00df 19 = .ok (.putfield 22, 3) := by decide +kernel
theorem dJ5_init_d00df_22 : decode cJ5_init_d00df 22 = .ok (.goto 16, 3) := by decide +kernel
theorem dJ5_init_d00df_25 : decode cJ5_init_d00df 25 = .ok (.aload_n 0, 1) := by decide +kernel
theorem dJ5_init_d00df_26 : decode cJ5_init_d00df 26 = .ok (.iload_n 1, 1) := by decide +kernel
theorem dJ5_init_d00df_27 : decode cJ5_init_d00df 27 = .ok (.invokestatic 26, 3) := by decide +kernel
theorem dJ5_init_d00df_30 : decode cJ5_init_d00df 30 = .ok (.putfield 15, 3) := by decide +kernel
theorem dJ5_init_d00df_33 : decode cJ5_init_d00df 33 = .ok (.aload_n 0, 1) := by decide +kernel
theorem dJ5_init_d00df_34 : decode cJ5_init_d00df 34 = .ok (.iconst 1, 1) := by decide +kernel
theorem dJ5_init_d00df_35 : decode cJ5_init_d00df 35 = .ok (.putfield 22, 3) := by decide +kernel
theorem dJ5_init_d00df_38 : decode cJ5_init_d00df 38 = .ok (.return_, 1) := by decide +kernel
theorem dJ5_length_8abf5_0 : decode cJ5_length_8abf5 0 = .ok (.aload_n 0, 1) := by decide +kernel
theorem dJ5_length_8abf5_1 : decode cJ5_length_8abf5 1 = .ok (.getfield 79, 3) := by decide +kernel
theorem dJ5_length_8abf5_4 : decode cJ5_length_8abf5 4 = .ok (.ireturn, 1) := by decide +kernel
theorem dJ5_ensureCapacityInternal_d00df_0 : decode cJ5_ensureCapacityInternal_d00df 0 = .ok (.aload_n 0, 1) := by decide +kernel
theorem dJ5_ensureCapacityInternal_d00df_1 : decode cJ5_ensureCapacityInternal_d00df 1 = .ok (.getfield 15, 3) := by decide +kernel
theorem dJ5_ensureCapacityInternal_d00df_4 : decode cJ5_ensureCapacityInternal_d00df 4 = .ok (.arraylength, 1) := by decide +kernel
theorem dJ5_ensureCapacityInternal_d00df_5 : decode cJ5_ensureCapacityInternal_d00df 5 = .ok (.aload_n 0, 1) := by decide +kernel
theorem dJ5_ensureCapacityInternal_d00df_6 : decode cJ5_ensureCapacityInternal_d00df 6 = .ok (.getfield 22, 3) := by decide +kernel
theorem dJ5_ensureCapacityInternal_d00df_9 : decode cJ5_ensureCapacityInternal_d00df 9 = .ok (.ishr, 1) := by decide +kernel
theorem dJ5_ensureCapacityInternal_d00df_10 : decode cJ5_ensureCapacityInternal_d00df 10 = .ok (.istore_n 2, 1) := by decide +kernel
theorem dJ5_ensureCapacityInternal_d00df_11 : decode cJ5_ensureCapacityInternal_d00df 11 = .ok (.iload_n 1, 1) := by decide +kernel
theorem dJ5_ensureCapacityInternal_d00df_12 : decode cJ5_ensureCapacityInternal_d00df 12 = .ok (.iload_n 2, 1) := by decide +kernel
theorem dJ5_ensureCapacityInternal_d00df_13 : decode cJ5_ensureCapacityInternal_d00df 13 = .ok (.isub, 1) := by decide +kernel
theorem dJ5_ensureCapacityInternal_d00df_14 : decode cJ5_ensureCapacityInternal_d00df 14 = .ok (.ifCond .le 24, 3) := by decide +kernel
theorem dJ5_ensureCapacityInternal_d00df_17 : decode cJ5_ensureCapacityInternal_d00df 17 = .ok (.aload_n 0, 1) := by decide +kernel
theorem dJ5_ensureCapacityInternal_d00df_18 : decode cJ5_ensureCapacityInternal_d00df 18 = .ok (.aload_n 0, 1) := by decide +kernel
theorem dJ5_ensureCapacityInternal_d00df_19 : decode cJ5_ensureCapacityInternal_d00df 19 = .ok (.getfield 15, 3) := by decide +kernel
theorem dJ5_ensureCapacityInternal_d00df_22 : decode cJ5_ensureCapacityInternal_d00df 22 = .ok (.aload_n 0, 1) := by decide +kernel
theorem dJ5_ensureCapacityInternal_d00df_23 : decode cJ5_ensureCapacityInternal_d00df 23 = .ok (.iload_n 1, 1) := by decide +kernel
theorem dJ5_ensureCapacityInternal_d00df_24 : decode cJ5_ensureCapacityInternal_d00df 24 = .ok (.invokevirtual 104, 3) := by decide +kernel
theorem dJ5_ensureCapacityInternal_d00df_27 : decode cJ5_ensureCapacityInternal_d00df 27 = .ok (.aload_n 0, 1) := by decide +kernel
theorem dJ5_ensureCapacityInternal_d00df_28 : decode cJ5_ensureCapacityInternal_d00df 28 = .ok (.getfield 22, 3) := by decide +kernel
theorem dJ5_ensureCapacityInternal_d00df_31 : decode cJ5_ensureCapacityInternal_d00df 31 = .ok (.ishl, 1) := by decide +kernel
theorem dJ5_ensureCapacityInternal_d00df_32 : decode cJ5_ensureCapacityInternal_d00df 32 = .ok (.invokestatic 108, 3) := by decide +kernel
theorem dJ5_ensureCapacityInternal_d00df_35 : decode cJ5_ensureCapacityInternal_d00df 35 = .ok (.putfield 15, 3) := by decide +kernel
theorem dJ5_ensureCapacityInternal_d00df_38 : decode cJ5_ensureCapacityInternal_d00df 38 = .ok (.return_, 1) := by decide +kernel
theorem dJ5_newCapacity_0f7a4_0 : decode cJ5_newCapacity_0f7a4 0 = .ok (.aload_n 0, 1) := by decide +kernel
theorem dJ5_newCapacity_0f7a4_1 : decode cJ5_newCapacity_0f7a4 1 = .ok (.getfield 15, 3) := by decide +kernel
theorem dJ5_newCapacity_0f7a4_4 : decode cJ5_newCapacity_0f7a4 4 = .ok (.arraylength, 1) := by decide +kernel
theorem dJ5_newCapacity_0f7a4_5 : decode cJ5_newCapacity_0f7a4 5 = .ok (.istore_n 2, 1) := by decide +kernel
theorem dJ5_newCapacity_0f7a4_6 : decode cJ5_newCapacity_0f7a4 6 = .ok (.iload_n 1, 1) := by decide +kernel
theorem dJ5_newCapacity_0f7a4_7 : decode cJ5_newCapacity_0f7a4 7 = .ok (.aload_n 0, 1) := by decide +kernel
theorem dJ5_newCapacity_0f7a4_8 : decode cJ5_newCapacity_0f7a4 8 = .ok (.getfield 22, 3) := by decide +kernel
theorem dJ5_newCapacity_0f7a4_11 : decode cJ5_newCapacity_0f7a4 11 = .ok (.ishl, 1) := by decide +kernel
theorem dJ5_newCapacity_0f7a4_12 : decode cJ5_newCapacity_0f7a4 12 = .ok (.istore_n 3, 1) := by decide +kernel
theorem dJ5_newCapacity_0f7a4_13 : decode cJ5_newCapacity_0f7a4 13 = .ok (.iload_n 3, 1) := by decide +kernel
theorem dJ5_newCapacity_0f7a4_14 : decode cJ5_newCapacity_0f7a4 14 = .ok (.iload_n 2, 1) := by decide +kernel
theorem dJ5_newCapacity_0f7a4_15 : decode cJ5_newCapacity_0f7a4 15 = .ok (.isub, 1) := by decide +kernel
theorem dJ5_newCapacity_0f7a4_16 : decode cJ5_newCapacity_0f7a4 16 = .ok (.istore 4, 2) := by decide +kernel
theorem dJ5_newCapacity_0f7a4_18 : decode cJ5_newCapacity_0f7a4 18 = .ok (.iload_n 2, 1) := by decide +kernel
theorem dJ5_newCapacity_0f7a4_19 : decode cJ5_newCapacity_0f7a4 19 = .ok (.iload 4, 2) := by decide +kernel
theorem dJ5_newCapacity_0f7a4_21 : decode cJ5_newCapacity_0f7a4 21 = .ok (.iload_n 2, 1) := by decide +kernel
theorem dJ5_newCapacity_0f7a4_22 : decode cJ5_newCapacity_0f7a4 22 = .ok (.iconst 2, 1) := by decide +kernel
theorem dJ5_newCapacity_0f7a4_23 : decode cJ5_newCapacity_0f7a4 23 = .ok (.aload_n 0, 1) := by decide +kernel
theorem dJ5_newCapacity_0f7a4_24 : decode cJ5_newCapacity_0f7a4 24 = .ok (.getfield 22, 3) := by decide +kernel
theorem dJ5_newCapacity_0f7a4_27 : decode cJ5_newCapacity_0f7a4 27 = .ok (.ishl, 1) := by decide +kernel
theorem dJ5_newCapacity_0f7a4_28 : decode cJ5_newCapacity_0f7a4 28 = .ok (.iadd, 1) := by decide +kernel
theorem dJ5_newCapacity_0f7a4_29 : decode cJ5_newCapacity_0f7a4 29 = .ok (.invokestatic 114, 3) := by decide +kernel
theorem dJ5_newCapacity_0f7a4_32 : decode cJ5_newCapacity_0f7a4 32 = .ok (.istore 5, 2) := by decide +kernel
theorem dJ5_newCapacity_0f7a4_34 : decode cJ5_newCapacity_0f7a4 34 = .ok (.iload 5, 2) := by decide +kernel
theorem dJ5_newCapacity_0f7a4_36 : decode cJ5_newCapacity_0f7a4 36 = .ok (.ldc 39, 2) := by decide +kernel
theorem dJ5_newCapacity_0f7a4_38 : decode cJ5_newCapacity_0f7a4 38 = .ok (.if_icmp .ne 13, 3) := by decide +kernel
theorem dJ5_newCapacity_0f7a4_41 : decode cJ5_newCapacity_0f7a4 41 = .ok (.new 120, 3) := by decide +kernel
theorem dJ5_newCapacity_0f7a4_44 : decode cJ5_newCapacity_0f7a4 44 = .ok (.dup, 1) := by decide +kernel
theorem dJ5_newCapacity_0f7a4_45 : decode cJ5_newCapacity_0f7a4 45 = .ok (.ldc 122, 2) := by decide +kernel
theorem dJ5_newCapacity_0f7a4_47 : decode cJ5_newCapacity_0f7a4 47 = .ok (.invokespecial 124, 3) := by decide +kernel
theorem dJ5_newCapacity_0f7a4_50 : decode cJ5_newCapacity_0f7a4 50 = .ok (.athrow, 1) := by decide +kernel
theorem dJ5_newCapacity_0f7a4_51 : decode cJ5_newCapacity_0f7a4 51 = .ok (.iload 5, 2) := by decide +kernel
theorem dJ5_newCapacity_0f7a4_53 : decode cJ5_newCapacity_0f7a4 53 = .ok (.aload_n 0, 1) := by decide +kernel
theorem dJ5_newCapacity_0f7a4_54 : decode cJ5_newCapacity_0f7a4 54 = .ok (.getfield 22, 3) := by decide +kernel
theorem dJ5_newCapacity_0f7a4_57 : decode cJ5_newCapacity_0f7a4 57 = .ok (.ishr, 1) := by decide +kernel
theorem dJ5_newCapacity_0f7a4_58 : decode cJ5_newCapacity_0f7a4 58 = .ok (.ireturn, 1) := by decide +kernel
theorem dJ5_inflate_da8c8_0 : decode cJ5_inflate_da8c8 0 = .ok (.aload_n 0, 1) := by decide +kernel
theorem dJ5_inflate_da8c8_1 : decode cJ5_inflate_da8c8 1 = .ok (.invokevirtual 83, 3) := by decide +kernel
theorem dJ5_inflate_da8c8_4 : decode cJ5_inflate_da8c8 4 = .ok (.ifCond .ne 4, 3) := by decide +kernel
theorem dJ5_inflate_da8c8_7 : decode cJ5_inflate_da8c8 7 = .ok (.return_, 1) := by decide +kernel
theorem dJ5_inflate_da8c8_8 : decode cJ5_inflate_da8c8 8 = .ok (.aload_n 0, 1) := by decide +kernel
theorem dJ5_inflate_da8c8_9 : decode cJ5_inflate_da8c8 9 = .ok (.getfield 15, 3) := by decide +kernel
theorem dJ5_inflate_da8c8_12 : decode cJ5_inflate_da8c8 12 = .ok (.arraylength, 1) := by decide +kernel
theorem dJ5_inflate_da8c8_13 : decode cJ5_inflate_da8c8 13 = .ok (.invokestatic 26, 3) := by decide +kernel
theorem dJ5_inflate_da8c8_16 : decode cJ5_inflate_da8c8 16 = .ok (.astore_n 1, 1) := by decide +kernel
theorem dJ5_inflate_da8c8_17 : decode cJ5_inflate_da8c8 17 = .ok (.aload_n 0, 1) := by decide +kernel
theorem dJ5_inflate_da8c8_18 : decode cJ5_inflate_da8c8 18 = .ok (.getfield 15, 3) := by decide +kernel
theorem dJ5_inflate_da8c8_21 : decode cJ5_inflate_da8c8 21 = .ok (.iconst 0, 1) := by decide +kernel
theorem dJ5_inflate_da8c8_22 : decode cJ5_inflate_da8c8 22 = .ok (.aload_n 1, 1) := by decide +kernel
theorem dJ5_inflate_da8c8_23 : decode cJ5_inflate_da8c8 23 = .ok (.iconst 0, 1) := by decide +kernel
theorem dJ5_inflate_da8c8_24 : decode cJ5_inflate_da8c8 24 = .ok (.aload_n 0, 1) := by decide +kernel
theorem dJ5_inflate_da8c8_25 : decode cJ5_inflate_da8c8 25 = .ok (.getfield 79, 3) := by decide +kernel
theorem dJ5_inflate_da8c8_28 : decode cJ5_inflate_da8c8 28 = .ok (.invokestatic 125, 3) := by decide +kernel
theorem dJ5_inflate_da8c8_31 : decode cJ5_inflate_da8c8 31 = .ok (.aload_n 0, 1) := by decide +kernel
theorem dJ5_inflate_da8c8_32 : decode cJ5_inflate_da8c8 32 = .ok (.aload_n 1, 1) := by decide +kernel
theorem dJ5_inflate_da8c8_33 : decode cJ5_inflate_da8c8 33 = .ok (.putfield 15, 3) := by decide +kernel
theorem dJ5_inflate_da8c8_36 : decode cJ5_inflate_da8c8 36 = .ok (.aload_n 0, 1) := by decide +kernel
theorem dJ5_inflate_da8c8_37 : decode cJ5_inflate_da8c8 37 = .ok (.iconst 1, 1) := by decide +kernel
theorem dJ5_inflate_da8c8_38 : decode cJ5_inflate_da8c8 38 = .ok (.putfield 22, 3) := by decide +kernel
theorem dJ5_inflate_da8c8_41 : decode cJ5_inflate_da8c8 41 = .ok (.return_, 1) := by decide +kernel
theorem dJ5_append_3fe6f_0 : decode cJ5_append_3fe6f 0 = .ok (.aload_n 0, 1) := by decide +kernel
theorem dJ5_append_3fe6f_1 : decode cJ5_append_3fe6f 1 = .ok (.aload_n 0, 1) := by decide +kernel
theorem dJ5_append_3fe6f_2 : decode cJ5_append_3fe6f 2 = .ok (.getfield 79, 3) := by decide +kernel
theorem dJ5_append_3fe6f_5 : decode cJ5_append_3fe6f 5 = .ok (.iconst 1, 1) := by decide +kernel
theorem dJ5_append_3fe6f_6 : decode cJ5_append_3fe6f 6 = .ok (.iadd, 1) := by decide +kernel
theorem dJ5_append_3fe6f_7 : decode cJ5_append_3fe6f 7 = .ok (.invokevirtual 100, 3) := by decide +kernel
theorem dJ5_append_3fe6f_10 : decode cJ5_append_3fe6f 10 = .ok (.aload_n 0, 1) := by decide +kernel
theorem dJ5_append_3fe6f_11 : decode cJ5_append_3fe6f 11 = .ok (.invokevirtual 83, 3) := by decide +kernel
theorem dJ5_append_3fe6f_14 : decode cJ5_append_3fe6f 14 = .ok (.ifCond .eq 31, 3) := by decide +kernel
theorem dJ5_append_3fe6f_17 : decode cJ5_append_3fe6f 17 = .ok (.iload_n 1, 1) := by decide +kernel
theorem dJ5_append_3fe6f_18 : decode cJ5_append_3fe6f 18 = .ok (.invokestatic 191, 3) := by decide +kernel
theorem dJ5_append_3fe6f_21 : decode cJ5_append_3fe6f 21 = .ok (.ifCond .eq 24, 3) := by decide +kernel
theorem dJ5_append_3fe6f_24 : decode cJ5_append_3fe6f 24 = .ok (.aload_n 0, 1) := by decide +kernel
theorem dJ5_append_3fe6f_25 : decode cJ5_append_3fe6f 25 = .ok (.getfield 15, 3) := by decide +kernel
theorem dJ5_append_3fe6f_28 : decode cJ5_append_3fe6f 28 = .ok (.aload_n 0, 1) := by decide +kernel
theorem dJ5_append_3fe6f_29 : decode cJ5_append_3fe6f 29 = .ok (.dup, 1) := by decide +kernel
theorem dJ5_append_3fe6f_30 : decode cJ5_append_3fe6f 30 = .ok (.getfield 79, 3) := by decide +kernel
theorem dJ5_append_3fe6f_33 : decode cJ5_append_3fe6f 33 = .ok (.dup_x1, 1) := by decide +kernel
theorem dJ5_append_3fe6f_34 : decode cJ5_append_3fe6f 34 = .ok (.iconst 1, 1) := by decide +kernel
theorem dJ5_append_3fe6f_35 : decode cJ5_append_3fe6f 35 = .ok (.iadd, 1) := by decide +kernel
theorem dJ5_append_3fe6f_36 : decode cJ5_append_3fe6f 36 = .ok (.putfield 79, 3) := by decide +kernel
theorem dJ5_append_3fe6f_39 : decode cJ5_append_3fe6f 39 = .ok (.iload_n 1, 1) := by decide +kernel
theorem dJ5_append_3fe6f_40 : decode cJ5_append_3fe6f 40 = .ok (.i2b, 1) := by decide +kernel
theorem dJ5_append_3fe6f_41 : decode cJ5_append_3fe6f 41 = .ok (.bastore, 1) := by decide +kernel
theorem dJ5_append_3fe6f_42 : decode cJ5_append_3fe6f 42 = .ok (.goto 33, 3) := by decide +kernel
theorem dJ5_append_3fe6f_45 : decode cJ5_append_3fe6f 45 = .ok (.aload_n 0, 1) := by decide +kernel
theorem dJ5_append_3fe6f_46 : decode cJ5_append_3fe6f 46 = .ok (.invokevirtual 83, 3) := by decide +kernel
theorem dJ5_append_3fe6f_49 : decode cJ5_append_3fe6f 49 = .ok (.ifCond .eq 7, 3) := by decide +kernel
theorem dJ5_append_3fe6f_52 : decode cJ5_append_3fe6f 52 = .ok (.aload_n 0, 1) := by decide +kernel
theorem dJ5_append_3fe6f_53 : decode cJ5_append_3fe6f 53 = .ok (.invokevirtual 195, 3) := by decide +kernel
theorem dJ5_append_3fe6f_56 : decode cJ5_append_3fe6f 56 = .ok (.aload_n 0, 1) := by decide +kernel
theorem dJ5_append_3fe6f_57 : decode cJ5_append_3fe6f 57 = .ok (.getfield 15, 3) := by decide +kernel
theorem dJ5_append_3fe6f_60 : decode cJ5_append_3fe6f 60 = .ok (.aload_n 0, 1) := by decide +kernel
theorem dJ5_append_3fe6f_61 : decode cJ5_append_3fe6f 61 = .ok (.dup, 1) := by decide +kernel
theorem dJ5_append_3fe6f_62 : decode cJ5_append_3fe6f 62 = .ok (.getfield 79, 3) := by decide +kernel
theorem dJ5_append_3fe6f_65 : decode cJ5_append_3fe6f 65 = .ok (.dup_x1, 1) := by decide +kernel
theorem dJ5_append_3fe6f_66 : decode cJ5_append_3fe6f 66 = .ok (.iconst 1, 1) := by decide +kernel
theorem dJ5_append_3fe6f_67 : decode cJ5_append_3fe6f 67 = .ok (.iadd, 1) := by decide +kernel
theorem dJ5_append_3fe6f_68 : decode cJ5_append_3fe6f 68 = .ok (.putfield 79, 3) := by decide +kernel
theorem dJ5_append_3fe6f_71 : decode cJ5_append_3fe6f 71 = .ok (.iload_n 1, 1) := by decide +kernel
theorem dJ5_append_3fe6f_72 : decode cJ5_append_3fe6f 72 = .ok (.invokestatic 197, 3) := by decide +kernel
theorem dJ5_append_3fe6f_75 : decode cJ5_append_3fe6f 75 = .ok (.aload_n 0, 1) := by decide +kernel
theorem dJ5_append_3fe6f_76 : decode cJ5_append_3fe6f 76 = .ok (.areturn, 1) := by decide +kernel
theorem dJ5_getValue_6d5f1_0 : decode cJ5_getValue_6d5f1 0 = .ok (.aload_n 0, 1) := by decide +kernel
theorem dJ5_getValue_6d5f1_1 : decode cJ5_getValue_6d5f1 1 = .ok (.getfield 15, 3) := by decide +kernel
theorem dJ5_getValue_6d5f1_4 : decode cJ5_getValue_6d5f1 4 = .ok (.areturn, 1) := by decide +kernel
theorem dJ5_isLatin1_aae02_0 : decode cJ5_isLatin1_aae02 0 = .ok (.getstatic 18, 3) := by decide +kernel
theorem dJ5_isLatin1_aae02_3 : decode cJ5_isLatin1_aae02 3 = .ok (.ifCond .eq 14, 3) := by decide +kernel
theorem dJ5_isLatin1_aae02_6 : decode cJ5_isLatin1_aae02 6 = .ok (.aload_n 0, 1) := by decide +kernel
theorem dJ5_isLatin1_aae02_7 : decode cJ5_isLatin1_aae02 7 = .ok (.getfield 22, 3) := by decide +kernel
theorem dJ5_isLatin1_aae02_10 : decode cJ5_isLatin1_aae02 10 = .ok (.ifCond .ne 7, 3) := by decide +kernel
theorem dJ5_isLatin1_aae02_13 : decode cJ5_isLatin1_aae02 13 = .ok (.iconst 1, 1) := by decide +kernel
theorem dJ5_isLatin1_aae02_14 : decode cJ5_isLatin1_aae02 14 = .ok (.goto 4, 3) := by decide +kernel
theorem dJ5_isLatin1_aae02_17 : decode cJ5_isLatin1_aae02 17 = .ok (.iconst 0, 1) := by decide +kernel
theorem dJ5_isLatin1_aae02_18 : decode cJ5_isLatin1_aae02 18 = .ok (.ireturn, 1) := by decide +kernel
theorem dJ9_max_7cf53_0 : decode cJ9_max_7cf53 0 = .ok (.iload_n 0, 1) := by decide +kernel
theorem dJ9_max_7cf53_1 : decode cJ9_max_7cf53 1 = .ok (.iload_n 1, 1) := by decide +kernel
theorem dJ9_max_7cf53_2 : decode cJ9_max_7cf53 2 = .ok (.if_icmp .lt 7, 3) := by decide +kernel
theorem dJ9_max_7cf53_5 : decode cJ9_max_7cf53 5 = .ok (.iload_n 0, 1) := by decide +kernel
theorem dJ9_max_7cf53_6 : decode cJ9_max_7cf53 6 = .ok (.goto 4, 3) := by decide +kernel
theorem dJ9_max_7cf53_9 : decode cJ9_max_7cf53 9 = .ok (.iload_n 1, 1) := by decide +kernel
theorem dJ9_max_7cf53_10 : decode cJ9_max_7cf53 10 = .ok (.ireturn, 1) := by decide +kernel
theorem dJ9_min_7cf53_0 : decode cJ9_min_7cf53 0 = .ok (.iload_n 0, 1) := by decide +kernel
theorem dJ9_min_7cf53_1 : decode cJ9_min_7cf53 1 = .ok (.iload_n 1, 1) := by decide +kernel
theorem dJ9_min_7cf53_2 : decode cJ9_min_7cf53 2 = .ok (.if_icmp .gt 7, 3) := by decide +kernel
theorem dJ9_min_7cf53_5 : decode cJ9_min_7cf53 5 = .ok (.iload_n 0, 1) := by decide +kernel
theorem dJ9_min_7cf53_6 : decode cJ9_min_7cf53 6 = .ok (.goto 4, 3) := by decide +kernel
theorem dJ9_min_7cf53_9 : decode cJ9_min_7cf53 9 = .ok (.iload_n 1, 1) := by decide +kernel
theorem dJ9_min_7cf53_10 : decode cJ9_min_7cf53 10 = .ok (.ireturn, 1) := by decide +kernel
theorem dJ0_init_81219_0 : decode cJ0_init_81219 0 = .ok (.aload_n 0, 1) := by decide +kernel
theorem dJ0_init_81219_1 : decode cJ0_init_81219 1 = .ok (.aload_n 1, 1) := by decide +kernel
theorem dJ0_init_81219_2 : decode cJ0_init_81219 2 = .ok (.aconst_null, 1) := by decide +kernel
theorem dJ0_init_81219_3 : decode cJ0_init_81219 3 = .ok (.invokespecial 489, 3) := by decide +kernel
theorem dJ0_init_81219_6 : decode cJ0_init_81219 6 = .ok (.return_, 1) := by decide +kernel
theorem dJ0_length_8abf5_0 : decode cJ0_length_8abf5 0 = .ok (.aload_n 0, 1) := by decide +kernel
theorem dJ0_length_8abf5_1 : decode cJ0_length_8abf5 1 = .ok (.getfield 9, 3) := by decide +kernel
theorem dJ0_length_8abf5_4 : decode cJ0_length_8abf5 4 = .ok (.arraylength, 1) := by decide +kernel
theorem dJ0_length_8abf5_5 : decode cJ0_length_8abf5 5 = .ok (.aload_n 0, 1) := by decide +kernel
theorem dJ0_length_8abf5_6 : decode cJ0_length_8abf5 6 = .ok (.invokevirtual 335, 3) := by decide +kernel
theorem dJ0_length_8abf5_9 : decode cJ0_length_8abf5 9 = .ok (.ishr, 1) := by decide +kernel
theorem dJ0_length_8abf5_10 : decode cJ0_length_8abf5 10 = .ok (.ireturn, 1) := by decide +kernel
theorem dJ0_charAt_5068e_0 : decode cJ0_charAt_5068e 0 = .ok (.aload_n 0, 1) := by decide +kernel
theorem dJ0_charAt_5068e_1 : decode cJ0_charAt_5068e 1 = .ok (.invokevirtual 492, 3) := by decide +kernel
theorem dJ0_charAt_5068e_4 : decode cJ0_charAt_5068e 4 = .ok (.ifCond .eq 12, 3) := by decide +kernel
theorem dJ0_charAt_5068e_7 : decode cJ0_charAt_5068e 7 = .ok (.aload_n 0, 1) := by decide +kernel
theorem dJ0_charAt_5068e_8 : decode cJ0_charAt_5068e 8 = .ok (.getfield 9, 3) := by decide +kernel
theorem dJ0_charAt_5068e_11 : decode cJ0_charAt_5068e 11 = .ok (.iload_n 1, 1) := by decide +kernel
theorem dJ0_charAt_5068e_12 : decode cJ0_charAt_5068e 12 = .ok (.invokestatic 495, 3) := by decide +kernel
theorem dJ0_charAt_5068e_15 : decode cJ0_charAt_5068e 15 = .ok (.ireturn, 1) := by decide +kernel
theorem dJ0_charAt_5068e_16 : decode cJ0_charAt_5068e 16 = .ok (.aload_n 0, 1) := by decide +kernel
theorem dJ0_charAt_5068e_17 : decode cJ0_charAt_5068e 17 = .ok (.getfield 9, 3) := by decide +kernel
theorem dJ0_charAt_5068e_20 : decode cJ0_charAt_5068e 20 = .ok (.iload_n 1, 1) := by decide +kernel
theorem dJ0_charAt_5068e_21 : decode cJ0_charAt_5068e 21 = .ok (.invokestatic 498, 3) := by decide +kernel
theorem dJ0_charAt_5068e_24 : decode cJ0_charAt_5068e 24 = .ok (.ireturn, 1) := by decide +kernel
theorem dJ0_init_db425_0 : decode cJ0_init_db425 0 = .ok (.aload_n 0, 1) := by decide +kernel
theorem dJ0_init_db425_1 : decode cJ0_init_db425 1 = .ok (.invokespecial 1, 3) := by decide +kernel
theorem dJ0_init_db425_4 : decode cJ0_init_db425 4 = .ok (.aload_n 1, 1) := by decide +kernel
theorem dJ0_init_db425_5 : decode cJ0_init_db425 5 = .ok (.invokevirtual 552, 3) := by decide +kernel
theorem dJ0_init_db425_8 : decode cJ0_init_db425 8 = .ok (.astore_n 3, 1) := by decide +kernel
theorem dJ0_init_db425_9 : decode cJ0_init_db425 9 = .ok (.aload_n 1, 1) := by decide +kernel
theorem dJ0_init_db425_10 : decode cJ0_init_db425 10 = .ok (.invokevirtual 549, 3) := by decide +kernel
theorem dJ0_init_db425_13 : decode cJ0_init_db425 13 = .ok (.istore 4, 2) := by decide +kernel
theorem dJ0_init_db425_15 : decode cJ0_init_db425 15 = .ok (.aload_n 1, 1) := by decide +kernel
theorem dJ0_init_db425_16 : decode cJ0_init_db425 16 = .ok (.invokevirtual 1047, 3) := by decide +kernel
theorem dJ0_init_db425_19 : decode cJ0_init_db425 19 = .ok (.ifCond .eq 22, 3) := by decide +kernel
theorem dJ0_init_db425_22 : decode cJ0_init_db425 22 = .ok (.aload_n 0, 1) := by decide +kernel
theorem dJ0_init_db425_23 : decode cJ0_init_db425 23 = .ok (.iconst 0, 1) := by decide +kernel
theorem dJ0_init_db425_24 : decode cJ0_init_db425 24 = .ok (.putfield 15, 3) := by decide +kernel
theorem dJ0_init_db425_27 : decode cJ0_init_db425 27 = .ok (.aload_n 0, 1) := by decide +kernel
theorem dJ0_init_db425_28 : decode cJ0_init_db425 28 = .ok (.aload_n 3, 1) := by decide +kernel
theorem dJ0_init_db425_29 : decode cJ0_init_db425 29 = .ok (.iconst 0, 1) := by decide +kernel
theorem dJ0_init_db425_30 : decode cJ0_init_db425 30 = .ok (.iload 4, 2) := by decide +kernel
theorem dJ0_init_db425_32 : decode cJ0_init_db425 32 = .ok (.invokestatic 54, 3) := by decide +kernel
theorem dJ0_init_db425_35 : decode cJ0_init_db425 35 = .ok (.putfield 9, 3) := by decide +kernel
theorem dJ0_init_db425_38 : decode cJ0_init_db425 38 = .ok (.goto 59, 3) := by decide +kernel
theorem dJ0_init_db425_41 : decode cJ0_init_db425 41 = .ok (.getstatic 38, 3) := by decide +kernel
theorem dJ0_init_db425_44 : decode cJ0_init_db425 44 = .ok (.ifCond .eq 35, 3) := by decide +kernel
theorem dJ0_init_db425_47 : decode cJ0_init_db425 47 = .ok (.aload_n 1, 1) := by decide +kernel
theorem dJ0_init_db425_48 : decode cJ0_init_db425 48 = .ok (.getfield 1048, 3) := by decide +kernel
theorem dJ0_init_db425_51 : decode cJ0_init_db425 51 = .ok (.ifCond .eq 28, 3) := by decide +kernel
theorem dJ0_init_db425_54 : decode cJ0_init_db425 54 = .ok (.aload_n 0, 1) := by decide +kernel
theorem dJ0_init_db425_55 : decode cJ0_init_db425 55 = .ok (.aload_n 3, 1) := by decide +kernel
theorem dJ0_init_db425_56 : decode cJ0_init_db425 56 = .ok (.iconst 0, 1) := by decide +kernel
theorem dJ0_init_db425_57 : decode cJ0_init_db425 57 = .ok (.iload 4, 2) := by decide +kernel
theorem dJ0_init_db425_59 : decode cJ0_init_db425 59 = .ok (.invokestatic 1051, 3) := by decide +kernel
theorem dJ0_init_db425_62 : decode cJ0_init_db425 62 = .ok (.putfield 9, 3) := by decide +kernel
theorem dJ0_init_db425_65 : decode cJ0_init_db425 65 = .ok (.aload_n 0, 1) := by decide +kernel
theorem dJ0_init_db425_66 : decode cJ0_init_db425 66 = .ok (.aload_n 0, 1) := by decide +kernel
theorem dJ0_init_db425_67 : decode cJ0_init_db425 67 = .ok (.getfield 9, 3) := by decide +kernel
theorem dJ0_init_db425_70 : decode cJ0_init_db425 70 = .ok (.iload 4, 2) := by decide +kernel
theorem dJ0_init_db425_72 : decode cJ0_init_db425 72 = .ok (.invokestatic 47, 3) := by decide +kernel
theorem dJ0_init_db425_75 : decode cJ0_init_db425 75 = .ok (.putfield 15, 3) := by decide +kernel
theorem dJ0_init_db425_78 : decode cJ0_init_db425 78 = .ok (.return_, 1) := by decide +kernel
theorem dJ0_init_db425_79 : decode cJ0_init_db425 79 = .ok (.aload_n 0, 1) := by decide +kernel
theorem dJ0_init_db425_80 : decode cJ0_init_db425 80 = .ok (.iconst 1, 1) := by decide +kernel
theorem dJ0_init_db425_81 : decode cJ0_init_db425 81 = .ok (.putfield 15, 3) := by decide +kernel
theorem dJ0_init_db425_84 : decode cJ0_init_db425 84 = .ok (.aload_n 0, 1) := by decide +kernel
theorem dJ0_init_db425_85 : decode cJ0_init_db425 85 = .ok (.aload_n 3, 1) := by decide +kernel
theorem dJ0_init_db425_86 : decode cJ0_init_db425 86 = .ok (.iconst 0, 1) := by decide +kernel
theorem dJ0_init_db425_87 : decode cJ0_init_db425 87 = .ok (.iload 4, 2) := by decide +kernel
theorem dJ0_init_db425_89 : decode cJ0_init_db425 89 = .ok (.iconst 1, 1) := by decide +kernel
theorem dJ0_init_db425_90 : decode cJ0_init_db425 90 = .ok (.ishl, 1) := by decide +kernel
theorem dJ0_init_db425_91 : decode cJ0_init_db425 91 = .ok (.invokestatic 54, 3) := by decide +kernel
theorem dJ0_init_db425_94 : decode cJ0_init_db425 94 = .ok (.putfield 9, 3) := by decide +kernel
theorem dJ0_init_db425_97 : decode cJ0_init_db425 97 = .ok (.return_, 1) := by decide +kernel
theorem dJ0_coder_7d493_0 : decode cJ0_coder_7d493 0 = .ok (.getstatic 38, 3) := by decide +kernel
theorem dJ0_coder_7d493_3 : decode cJ0_coder_7d493 3 = .ok (.ifCond .eq 10, 3) := by decide +kernel
theorem dJ0_coder_7d493_6 : decode cJ0_coder_7d493 6 = .ok (.aload_n 0, 1) := by decide +kernel
theorem dJ0_coder_7d493_7 : decode cJ0_coder_7d493 7 = .ok (.getfield 15, 3) := by decide +kernel
theorem dJ0_coder_7d493_10 : decode cJ0_coder_7d493 10 = .ok (.goto 4, 3) := by decide +kernel
theorem dJ0_coder_7d493_13 : decode cJ0_coder_7d493 13 = .ok (.iconst 1, 1) := by decide +kernel
theorem dJ0_coder_7d493_14 : decode cJ0_coder_7d493 14 = .ok (.ireturn, 1) := by decide +kernel
theorem dJ0_isLatin1_aae02_0 : decode cJ0_isLatin1_aae02 0 = .ok (.getstatic 38, 3) := by decide +kernel
theorem dJ0_isLatin1_aae02_3 : decode cJ0_isLatin1_aae02 3 = .ok (.ifCond .eq 14, 3) := by decide +kernel
theorem dJ0_isLatin1_aae02_6 : decode cJ0_isLatin1_aae02 6 = .ok (.aload_n 0, 1) := by decide +kernel
theorem dJ0_isLatin1_aae02_7 : decode cJ0_isLatin1_aae02 7 = .ok (.getfield 15, 3) := by decide +kernel
theorem dJ0_isLatin1_aae02_10 : decode cJ0_isLatin1_aae02 10 = .ok (.ifCond .ne 7, 3) := by decide +kernel
theorem dJ0_isLatin1_aae02_13 : decode cJ0_isLatin1_aae02 13 = .ok (.iconst 1, 1) := by decide +kernel
theorem dJ0_isLatin1_aae02_14 : decode cJ0_isLatin1_aae02 14 = .ok (.goto 4, 3) := by decide +kernel
theorem dJ0_isLatin1_aae02_17 : decode cJ0_isLatin1_aae02 17 = .ok (.iconst 0, 1) := by decide +kernel
theorem dJ0_isLatin1_aae02_18 : decode cJ0_isLatin1_aae02 18 = .ok (.ireturn, 1) := by decide +kernel
theorem dJ0_checkIndex_df160_0 : decode cJ0_checkIndex_df160 0 = .ok (.iload_n 0, 1) := by decide +kernel
theorem dJ0_checkIndex_df160_1 : decode cJ0_checkIndex_df160 1 = .ok (.iload_n 1, 1) := by decide +kernel
theorem dJ0_checkIndex_df160_2 : decode cJ0_checkIndex_df160 2 = .ok (.getstatic 1053, 3) := by decide +kernel
theorem dJ0_checkIndex_df160_5 : decode cJ0_checkIndex_df160 5 = .ok (.invokestatic 1059, 3) := by decide +kernel
theorem dJ0_checkIndex_df160_8 : decode cJ0_checkIndex_df160 8 = .ok (.pop, 1) := by decide +kernel
theorem dJ0_checkIndex_df160_9 : decode cJ0_checkIndex_df160 9 = .ok (.return_, 1) := by decide +kernel
theorem dJ0_checkBoundsOffCount_cabcc_0 : decode cJ0_checkBoundsOffCount_cabcc 0 = .ok (.iload_n 0, 1) := by decide +kernel
theorem dJ0_checkBoundsOffCount_cabcc_1 : decode cJ0_checkBoundsOffCount_cabcc 1 = .ok (.iload_n 1, 1) := by decide +kernel
theorem dJ0_checkBoundsOffCount_cabcc_2 : decode cJ0_checkBoundsOffCount_cabcc 2 = .ok (.iload_n 2, 1) := by decide +kernel
theorem dJ0_checkBoundsOffCount_cabcc_3 : decode cJ0_checkBoundsOffCount_cabcc 3 = .ok (.getstatic 1053, 3) := by decide +kernel
theorem dJ0_checkBoundsOffCount_cabcc_6 : decode cJ0_checkBoundsOffCount_cabcc 6 = .ok (.invokestatic 1065, 3) := by decide +kernel
theorem dJ0_checkBoundsOffCount_cabcc_9 : decode cJ0_checkBoundsOffCount_cabcc 9 = .ok (.ireturn, 1) := by decide +kernel
theorem dJ4_init_da8c8_0 : decode cJ4_init_da8c8 0 = .ok (.aload_n 0, 1) := by decide +kernel
theorem dJ4_init_da8c8_1 : decode cJ4_init_da8c8 1 = .ok (.bipush 16, 2) := by decide +kernel
theorem dJ4_init_da8c8_3 : decode cJ4_init_da8c8 3 = .ok (.invokespecial 1, 3) := by decide +kernel
theorem dJ4_init_da8c8_6 : decode cJ4_init_da8c8 6 = .ok (.return_, 1) := by decide +kernel
theorem dJ4_append_cf468_0 : decode cJ4_append_cf468 0 = .ok (.aload_n 0, 1) := by decide +kernel
theorem dJ4_append_cf468_1 : decode cJ4_append_cf468 1 = .ok (.iload_n 1, 1) := by decide +kernel
theorem dJ4_append_cf468_2 : decode cJ4_append_cf468 2 = .ok (.invokespecial 50, 3) := by decide +kernel
theorem dJ4_append_cf468_5 : decode cJ4_append_cf468 5 = .ok (.pop, 1) := by decide +kernel
theorem dJ4_append_cf468_6 : decode cJ4_append_cf468 6 = .ok (.aload_n 0, 1) := by decide +kernel
theorem dJ4_append_cf468_7 : decode cJ4_append_cf468 7 = .ok (.areturn, 1) := by decide +kernel
theorem dJ4_toString_0e30d_0 : decode cJ4_toString_0e30d 0 = .ok (.new 18, 3) := by decide +kernel
theorem dJ4_toString_0e30d_3 : decode cJ4_toString_0e30d 3 = .ok (.dup, 1) := by decide +kernel
theorem dJ4_toString_0e30d_4 : decode cJ4_toString_0e30d 4 = .ok (.aload_n 0, 1) := by decide +kernel
theorem dJ4_toString_0e30d_5 : decode cJ4_toString_0e30d 5 = .ok (.invokespecial 137, 3) := by decide +kernel
theorem dJ4_toString_0e30d_8 : decode cJ4_toString_0e30d 8 = .ok (.areturn, 1) := by decide +kernel
theorem dJ4_length_8abf5_0 : decode cJ4_length_8abf5 0 = .ok (.aload_n 0, 1) := by decide +kernel
theorem dJ4_length_8abf5_1 : decode cJ4_length_8abf5 1 = .ok (.invokespecial 343, 3) := by decide +kernel
theorem dJ4_length_8abf5_4 : decode cJ4_length_8abf5 4 = .ok (.ireturn, 1) := by decide +kernel
theorem dJ1_charAt_3b067_0 : decode cJ1_charAt_3b067 0 = .ok (.iload_n 1, 1) := by decide +kernel
theorem dJ1_charAt_3b067_1 : decode cJ1_charAt_3b067 1 = .ok (.aload_n 0, 1) := by decide +kernel
theorem dJ1_charAt_3b067_2 : decode cJ1_charAt_3b067 2 = .ok (.arraylength, 1) := by decide +kernel
theorem dJ1_charAt_3b067_3 : decode cJ1_charAt_3b067 3 = .ok (.invokestatic 9, 3) := by decide +kernel
theorem dJ1_charAt_3b067_6 : decode cJ1_charAt_3b067 6 = .ok (.aload_n 0, 1) := by decide +kernel
theorem dJ1_charAt_3b067_7 : decode cJ1_charAt_3b067 7 = .ok (.iload_n 1, 1) := by decide +kernel
theorem dJ1_charAt_3b067_8 : decode cJ1_charAt_3b067 8 = .ok (.baload, 1) := by decide +kernel
theorem dJ1_charAt_3b067_9 : decode cJ1_charAt_3b067 9 = .ok (.sipush 255, 3) := by decide +kernel
theorem dJ1_charAt_3b067_12 : decode cJ1_charAt_3b067 12 = .ok (.iand, 1) := by decide +kernel
theorem dJ1_charAt_3b067_13 : decode cJ1_charAt_3b067 13 = .ok (.i2c, 1) := by decide +kernel
theorem dJ1_charAt_3b067_14 : decode cJ1_charAt_3b067 14 = .ok (.ireturn, 1) := by decide +kernel
theorem dJ1_canEncode_fc78d_0 : decode cJ1_canEncode_fc78d 0 = .ok (.iload_n 0, 1) := by decide +kernel
theorem dJ1_canEncode_fc78d_1 : decode cJ1_canEncode_fc78d 1 = .ok (.sipush 255, 3) := by decide +kernel
theorem dJ1_canEncode_fc78d_4 : decode cJ1_canEncode_fc78d 4 = .ok (.if_icmp .gt 7, 3) := by decide +kernel
theorem dJ1_canEncode_fc78d_7 : decode cJ1_canEncode_fc78d 7 = .ok (.iconst 1, 1) := by decide +kernel
theorem dJ1_canEncode_fc78d_8 : decode cJ1_canEncode_fc78d 8 = .ok (.goto 4, 3) := by decide +kernel
theorem dJ1_canEncode_fc78d_11 : decode cJ1_canEncode_fc78d 11 = .ok (.iconst 0, 1) := by decide +kernel
theorem dJ1_canEncode_fc78d_12 : decode cJ1_canEncode_fc78d 12 = .ok (.ireturn, 1) := by decide +kernel
theorem dJ1_inflate_0e8fd_0 : decode cJ1_inflate_0e8fd 0 = .ok (.aload_n 0, 1) := by decide +kernel
theorem dJ1_inflate_0e8fd_1 : decode cJ1_inflate_0e8fd 1 = .ok (.iload_n 1, 1) := by decide +kernel
theorem dJ1_inflate_0e8fd_2 : decode cJ1_inflate_0e8fd 2 = .ok (.aload_n 2, 1) := by decide +kernel
theorem dJ1_inflate_0e8fd_3 : decode cJ1_inflate_0e8fd 3 = .ok (.iload_n 3, 1) := by decide +kernel
theorem dJ1_inflate_0e8fd_4 : decode cJ1_inflate_0e8fd 4 = .ok (.iload 4, 2) := by decide +kernel
theorem dJ1_inflate_0e8fd_6 : decode cJ1_inflate_0e8fd 6 = .ok (.invokestatic 240, 3) := by decide +kernel
theorem dJ1_inflate_0e8fd_9 : decode cJ1_inflate_0e8fd 9 = .ok (.return_, 1) := by decide +kernel
theorem dJ2_newBytesFor_77867_0 : decode cJ2_newBytesFor_77867 0 = .ok (.iload_n 0, 1) := by decide +kernel
theorem dJ2_newBytesFor_77867_1 : decode cJ2_newBytesFor_77867 1 = .ok (.invokestatic 11, 3) := by decide +kernel
theorem dJ2_newBytesFor_77867_4 : decode cJ2_newBytesFor_77867 4 = .ok (.newarray .byte, 2) := by decide +kernel
theorem dJ2_newBytesFor_77867_6 : decode cJ2_newBytesFor_77867 6 = .ok (.areturn, 1) := by decide +kernel
theorem dJ2_newBytesLength_0f7a4_0 : decode cJ2_newBytesLength_0f7a4 0 = .ok (.iload_n 0, 1) := by decide +kernel
theorem dJ2_newBytesLength_0f7a4_1 : decode cJ2_newBytesLength_0f7a4 1 = .ok (.ifCond .ge 11, 3) := by decide +kernel
theorem dJ2_newBytesLength_0f7a4_4 : decode cJ2_newBytesLength_0f7a4 4 = .ok (.new 17, 3) := by decide +kernel
theorem dJ2_newBytesLength_0f7a4_7 : decode cJ2_newBytesLength_0f7a4 7 = .ok (.dup, 1) := by decide +kernel
theorem dJ2_newBytesLength_0f7a4_8 : decode cJ2_newBytesLength_0f7a4 8 = .ok (.invokespecial 19, 3) := by decide +kernel
theorem dJ2_newBytesLength_0f7a4_11 : decode cJ2_newBytesLength_0f7a4 11 = .ok (.athrow, 1) := by decide +kernel
theorem dJ2_newBytesLength_0f7a4_12 : decode cJ2_newBytesLength_0f7a4 12 = .ok (.iload_n 0, 1) := by decide +kernel
theorem dJ2_newBytesLength_0f7a4_13 : decode cJ2_newBytesLength_0f7a4 13 = .ok (.ldc 20, 2) := by decide +kernel
theorem dJ2_newBytesLength_0f7a4_15 : decode cJ2_newBytesLength_0f7a4 15 = .ok (.if_icmp .lt 40, 3) := by decide +kernel
theorem dJ2_newBytesLength_0f7a4_18 : decode cJ2_newBytesLength_0f7a4 18 = .ok (.new 21, 3) := by decide +kernel
theorem dJ2_newBytesLength_0f7a4_21 : decode cJ2_newBytesLength_0f7a4 21 = .ok (.dup, 1) := by decide +kernel
theorem dJ2_newBytesLength_0f7a4_22 : decode cJ2_newBytesLength_0f7a4 22 = .ok (.new 23, 3) := by decide +kernel
theorem dJ2_newBytesLength_0f7a4_25 : decode cJ2_newBytesLength_0f7a4 25 = .ok (.dup, 1) := by decide +kernel
theorem dJ2_newBytesLength_0f7a4_26 : decode cJ2_newBytesLength_0f7a4 26 = .ok (.invokespecial 25, 3) := by decide +kernel
theorem dJ2_newBytesLength_0f7a4_29 : decode cJ2_newBytesLength_0f7a4 29 = .ok (.ldc 26, 2) := by decide +kernel
theorem dJ2_newBytesLength_0f7a4_31 : decode cJ2_newBytesLength_0f7a4 31 = .ok (.invokevirtual 28, 3) := by decide +kernel
theorem dJ2_newBytesLength_0f7a4_34 : decode cJ2_newBytesLength_0f7a4 34 = .ok (.iload_n 0, 1) := by decide +kernel
theorem dJ2_newBytesLength_0f7a4_35 : decode cJ2_newBytesLength_0f7a4 35 = .ok (.invokevirtual 32, 3) := by decide +kernel
theorem dJ2_newBytesLength_0f7a4_38 : decode cJ2_newBytesLength_0f7a4 38 = .ok (.ldc 35, 2) := by decide +kernel
theorem dJ2_newBytesLength_0f7a4_40 : decode cJ2_newBytesLength_0f7a4 40 = .ok (.invokevirtual 28, 3) := by decide +kernel
theorem dJ2_newBytesLength_0f7a4_43 : decode cJ2_newBytesLength_0f7a4 43 = .ok (.ldc 20, 2) := by decide +kernel
theorem dJ2_newBytesLength_0f7a4_45 : decode cJ2_newBytesLength_0f7a4 45 = .ok (.invokevirtual 32, 3) := by decide +kernel
theorem dJ2_newBytesLength_0f7a4_48 : decode cJ2_newBytesLength_0f7a4 48 = .ok (.invokevirtual 37, 3) := by decide +kernel
theorem dJ2_newBytesLength_0f7a4_51 : decode cJ2_newBytesLength_0f7a4 51 = .ok (.invokespecial 41, 3) := by decide +kernel
theorem dJ2_newBytesLength_0f7a4_54 : decode cJ2_newBytesLength_0f7a4 54 = .ok (.athrow, 1) := by decide +kernel
theorem dJ2_newBytesLength_0f7a4_55 : decode cJ2_newBytesLength_0f7a4 55 = .ok (.iload_n 0, 1) := by decide +kernel
theorem dJ2_newBytesLength_0f7a4_56 : decode cJ2_newBytesLength_0f7a4 56 = .ok (.iconst 1, 1) := by decide +kernel
theorem dJ2_newBytesLength_0f7a4_57 : decode cJ2_newBytesLength_0f7a4 57 = .ok (.ishl, 1) := by decide +kernel
theorem dJ2_newBytesLength_0f7a4_58 : decode cJ2_newBytesLength_0f7a4 58 = .ok (.ireturn, 1) := by decide +kernel
theorem dJ2_putChar_b72d1_0 : decode cJ2_putChar_b72d1 0 = .ok (.getstatic 44, 3) := by decide +kernel
theorem dJ2_putChar_b72d1_3 : decode cJ2_putChar_b72d1 3 = .ok (.ifCond .ne 25, 3) := by decide +kernel
theorem dJ2_putChar_b72d1_6 : decode cJ2_putChar_b72d1 6 = .ok (.iload_n 1, 1) := by decide +kernel
theorem dJ2_putChar_b72d1_7 : decode cJ2_putChar_b72d1 7 = .ok (.ifCond .lt 11, 3) := by decide +kernel
theorem dJ2_putChar_b72d1_10 : decode cJ2_putChar_b72d1 10 = .ok (.iload_n 1, 1) := by decide +kernel
theorem dJ2_putChar_b72d1_11 : decode cJ2_putChar_b72d1 11 = .ok (.aload_n 0, 1) := by decide +kernel
theorem dJ2_putChar_b72d1_12 : decode cJ2_putChar_b72d1 12 = .ok (.invokestatic 48, 3) := by decide +kernel
theorem dJ2_putChar_b72d1_15 : decode cJ2_putChar_b72d1 15 = .ok (.if_icmp .lt 13, 3) := by decide +kernel
theorem dJ2_putChar_b72d1_18 : decode cJ2_putChar_b72d1 18 = .ok (.new 52, 3) := by decide +kernel
theorem dJ2_putChar_b72d1_21 : decode cJ2_putChar_b72d1 21 = .ok (.dup, 1) := by decide +kernel
theorem dJ2_putChar_b72d1_22 : decode cJ2_putChar_b72d1 22 = .ok (.ldc 54, 2) := by decide +kernel
theorem dJ2_putChar_b72d1_24 : decode cJ2_putChar_b72d1 24 = .ok (.invokespecial 56, 3) := by decide +kernel
theorem dJ2_putChar_b72d1_27 : decode cJ2_putChar_b72d1 27 = .ok (.athrow, 1) := by decide +kernel
theorem dJ2_putChar_b72d1_28 : decode cJ2_putChar_b72d1 28 = .ok (.iload_n 1, 1) := by decide +kernel
theorem dJ2_putChar_b72d1_29 : decode cJ2_putChar_b72d1 29 = .ok (.iconst 1, 1) := by decide +kernel
theorem dJ2_putChar_b72d1_30 : decode cJ2_putChar_b72d1 30 = .ok (.ishl, 1) := by decide +kernel
theorem dJ2_putChar_b72d1_31 : decode cJ2_putChar_b72d1 31 = .ok (.istore_n 1, 1) := by decide +kernel
theorem dJ2_putChar_b72d1_32 : decode cJ2_putChar_b72d1 32 = .ok (.aload_n 0, 1) := by decide +kernel
theorem dJ2_putChar_b72d1_33 : decode cJ2_putChar_b72d1 33 = .ok (.iload_n 1, 1) := by decide +kernel
theorem dJ2_putChar_b72d1_34 : decode cJ2_putChar_b72d1 34 = .ok (.iinc 1 1, 3) := by decide +kernel
theorem dJ2_putChar_b72d1_37 : decode cJ2_putChar_b72d1 37 = .ok (.iload_n 2, 1) := by decide +kernel
theorem dJ2_putChar_b72d1_38 : decode cJ2_putChar_b72d1 38 = .ok (.getstatic 59, 3) := by decide +kernel
theorem dJ2_putChar_b72d1_41 : decode cJ2_putChar_b72d1 41 = .ok (.ishr, 1) := by decide +kernel
theorem dJ2_putChar_b72d1_42 : decode cJ2_putChar_b72d1 42 = .ok (.i2b, 1) := by decide +kernel
theorem dJ2_putChar_b72d1_43 : decode cJ2_putChar_b72d1 43 = .ok (.bastore, 1) := by decide +kernel
theorem dJ2_putChar_b72d1_44 : decode cJ2_putChar_b72d1 44 = .ok (.aload_n 0, 1) := by decide +kernel
theorem dJ2_putChar_b72d1_45 : decode cJ2_putChar_b72d1 45 = .ok (.iload_n 1, 1) := by decide +kernel
theorem dJ2_putChar_b72d1_46 : decode cJ2_putChar_b72d1 46 = .ok (.iload_n 2, 1) := by decide +kernel
theorem dJ2_putChar_b72d1_47 : decode cJ2_putChar_b72d1 47 = .ok (.getstatic 63, 3) := by decide +kernel
theorem dJ2_putChar_b72d1_50 : decode cJ2_putChar_b72d1 50 = .ok (.ishr, 1) := by decide +kernel
theorem dJ2_putChar_b72d1_51 : decode cJ2_putChar_b72d1 51 = .ok (.i2b, 1) := by decide +kernel
theorem dJ2_putChar_b72d1_52 : decode cJ2_putChar_b72d1 52 = .ok (.bastore, 1) := by decide +kernel
theorem dJ2_putChar_b72d1_53 : decode cJ2_putChar_b72d1 53 = .ok (.return_, 1) := by decide +kernel
theorem dJ2_getChar_3b067_0 : decode cJ2_getChar_3b067 0 = .ok (.getstatic 44, 3) := by decide +kernel
theorem dJ2_getChar_3b067_3 : decode cJ2_getChar_3b067 3 = .ok (.ifCond .ne 25, 3) := by decide +kernel
theorem dJ2_getChar_3b067_6 : decode cJ2_getChar_3b067 6 = .ok (.iload_n 1, 1) := by decide +kernel
theorem dJ2_getChar_3b067_7 : decode cJ2_getChar_3b067 7 = .ok (.ifCond .lt 11, 3) := by decide +kernel
theorem dJ2_getChar_3b067_10 : decode cJ2_getChar_3b067 10 = .ok (.iload_n 1, 1) := by decide +kernel
theorem dJ2_getChar_3b067_11 : decode cJ2_getChar_3b067 11 = .ok (.aload_n 0, 1) := by decide +kernel
theorem dJ2_getChar_3b067_12 : decode cJ2_getChar_3b067 12 = .ok (.invokestatic 48, 3) := by decide +kernel
theorem dJ2_getChar_3b067_15 : decode cJ2_getChar_3b067 15 = .ok (.if_icmp .lt 13, 3) := by decide +kernel
theorem dJ2_getChar_3b067_18 : decode cJ2_getChar_3b067 18 = .ok (.new 52, 3) := by decide +kernel
theorem dJ2_getChar_3b067_21 : decode cJ2_getChar_3b067 21 = .ok (.dup, 1) := by decide +kernel
theorem dJ2_getChar_3b067_22 : decode cJ2_getChar_3b067 22 = .ok (.ldc 54, 2) := by decide +kernel
theorem dJ2_getChar_3b067_24 : decode cJ2_getChar_3b067 24 = .ok (.invokespecial 56, 3) := by decide +kernel
theorem dJ2_getChar_3b067_27 : decode cJ2_getChar_3b067 27 = .ok (.athrow, 1) := by decide +kernel
theorem dJ2_getChar_3b067_28 : decode cJ2_getChar_3b067 28 = .ok (.iload_n 1, 1) := by decide +kernel
theorem dJ2_getChar_3b067_29 : decode cJ2_getChar_3b067 29 = .ok (.iconst 1, 1) := by decide +kernel
theorem dJ2_getChar_3b067_30 : decode cJ2_getChar_3b067 30 = .ok (.ishl, 1) := by decide +kernel
theorem dJ2_getChar_3b067_31 : decode cJ2_getChar_3b067 31 = .ok (.istore_n 1, 1) := by decide +kernel
theorem dJ2_getChar_3b067_32 : decode cJ2_getChar_3b067 32 = .ok (.aload_n 0, 1) := by decide +kernel
theorem dJ2_getChar_3b067_33 : decode cJ2_getChar_3b067 33 = .ok (.iload_n 1, 1) := by decide +kernel
theorem dJ2_getChar_3b067_34 : decode cJ2_getChar_3b067 34 = .ok (.iinc 1 1, 3) := by decide +kernel
theorem dJ2_getChar_3b067_37 : decode cJ2_getChar_3b067 37 = .ok (.baload, 1) := by decide +kernel
theorem dJ2_getChar_3b067_38 : decode cJ2_getChar_3b067 38 = .ok (.sipush 255, 3) := by decide +kernel
theorem dJ2_getChar_3b067_41 : decode cJ2_getChar_3b067 41 = .ok (.iand, 1) := by decide +kernel
theorem dJ2_getChar_3b067_42 : decode cJ2_getChar_3b067 42 = .ok (.getstatic 59, 3) := by decide +kernel
theorem dJ2_getChar_3b067_45 : decode cJ2_getChar_3b067 45 = .ok (.ishl, 1) := by decide +kernel
theorem dJ2_getChar_3b067_46 : decode cJ2_getChar_3b067 46 = .ok (.aload_n 0, 1) := by decide +kernel
theorem dJ2_getChar_3b067_47 : decode cJ2_getChar_3b067 47 = .ok (.iload_n 1, 1) := by decide +kernel
theorem dJ2_getChar_3b067_48 : decode cJ2_getChar_3b067 48 = .ok (.baload, 1) := by decide +kernel
theorem dJ2_getChar_3b067_49 : decode cJ2_getChar_3b067 49 = .ok (.sipush 255, 3) := by decide +kernel
theorem dJ2_getChar_3b067_52 : decode cJ2_getChar_3b067 52 = .ok (.iand, 1) := by decide +kernel
theorem dJ2_getChar_3b067_53 : decode cJ2_getChar_3b067 53 = .ok (.getstatic 63, 3) := by decide +kernel
theorem dJ2_getChar_3b067_56 : decode cJ2_getChar_3b067 56 = .ok (.ishl, 1) := by decide +kernel
theorem dJ2_getChar_3b067_57 : decode cJ2_getChar_3b067 57 = .ok (.ior, 1) := by decide +kernel
theorem dJ2_getChar_3b067_58 : decode cJ2_getChar_3b067 58 = .ok (.i2c, 1) := by decide +kernel
theorem dJ2_getChar_3b067_59 : decode cJ2_getChar_3b067 59 = .ok (.ireturn, 1) := by decide +kernel
theorem dJ2_length_9d52b_0 : decode cJ2_length_9d52b 0 = .ok (.aload_n 0, 1) := by decide +kernel
theorem dJ2_length_9d52b_1 : decode cJ2_length_9d52b 1 = .ok (.arraylength, 1) := by decide +kernel
theorem dJ2_length_9d52b_2 : decode cJ2_length_9d52b 2 = .ok (.iconst 1, 1) := by decide +kernel
theorem dJ2_length_9d52b_3 : decode cJ2_length_9d52b 3 = .ok (.ishr, 1) := by decide +kernel
theorem dJ2_length_9d52b_4 : decode cJ2_length_9d52b 4 = .ok (.ireturn, 1) := by decide +kernel
theorem dJ2_coderFromArrayLen_85cad_0 : decode cJ2_coderFromArrayLen_85cad 0 = .ok (.iload_n 1, 1) := by decide +kernel
theorem dJ2_coderFromArrayLen_85cad_1 : decode cJ2_coderFromArrayLen_85cad 1 = .ok (.aload_n 0, 1) := by decide +kernel
theorem dJ2_coderFromArrayLen_85cad_2 : decode cJ2_coderFromArrayLen_85cad 2 = .ok (.arraylength, 1) := by decide +kernel
theorem dJ2_coderFromArrayLen_85cad_3 : decode cJ2_coderFromArrayLen_85cad 3 = .ok (.isub, 1) := by decide +kernel
theorem dJ2_coderFromArrayLen_85cad_4 : decode cJ2_coderFromArrayLen_85cad 4 = .ok (.bipush 31, 2) := by decide +kernel
theorem dJ2_coderFromArrayLen_85cad_6 : decode cJ2_coderFromArrayLen_85cad 6 = .ok (.iushr, 1) := by decide +kernel
theorem dJ2_coderFromArrayLen_85cad_7 : decode cJ2_coderFromArrayLen_85cad 7 = .ok (.i2b, 1) := by decide +kernel
theorem dJ2_coderFromArrayLen_85cad_8 : decode cJ2_coderFromArrayLen_85cad 8 = .ok (.ireturn, 1) := by decide +kernel
theorem dJ2_compress_39247_0 : decode cJ2_compress_39247 0 = .ok (.iload_n 2, 1) := by decide +kernel
theorem dJ2_compress_39247_1 : decode cJ2_compress_39247 1 = .ok (.newarray .byte, 2) := by decide +kernel
theorem dJ2_compress_39247_3 : decode cJ2_compress_39247 3 = .ok (.astore_n 3, 1) := by decide +kernel
theorem dJ2_compress_39247_4 : decode cJ2_compress_39247 4 = .ok (.aload_n 0, 1) := by decide +kernel
theorem dJ2_compress_39247_5 : decode cJ2_compress_39247 5 = .ok (.iload_n 1, 1) := by decide +kernel
theorem dJ2_compress_39247_6 : decode cJ2_compress_39247 6 = .ok (.aload_n 3, 1) := by decide +kernel
