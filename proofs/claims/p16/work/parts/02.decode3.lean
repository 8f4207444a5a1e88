theorem dX11_keepsAct_37 : decode cX11_keepsAct 37 = .ok (.goto (-26), 3) := by decide +kernel
theorem dX11_keepsAct_40 : decode cX11_keepsAct 40 = .ok (.aload_n 0, 1) := by decide +kernel
theorem dX11_keepsAct_41 : decode cX11_keepsAct 41 = .ok (.bipush 7, 2) := by decide +kernel
theorem dX11_keepsAct_43 : decode cX11_keepsAct 43 = .ok (.putfield 96, 3) := by decide +kernel
theorem dX11_keepsAct_46 : decode cX11_keepsAct 46 = .ok (.iconst 0, 1) := by decide +kernel
theorem dX11_keepsAct_47 : decode cX11_keepsAct 47 = .ok (.istore_n 1, 1) := by decide +kernel
theorem dX11_keepsAct_48 : decode cX11_keepsAct 48 = .ok (.iload_n 1, 1) := by decide +kernel
theorem dX11_keepsAct_49 : decode cX11_keepsAct 49 = .ok (.sipush 283, 3) := by decide +kernel
theorem dX11_keepsAct_52 : decode cX11_keepsAct 52 = .ok (.if_icmp .ge 30, 3) := by decide +kernel
theorem dX11_keepsAct_55 : decode cX11_keepsAct 55 = .ok (.aload_n 0, 1) := by decide +kernel
theorem dX11_keepsAct_56 : decode cX11_keepsAct 56 = .ok (.getfield 17, 3) := by decide +kernel
theorem dX11_keepsAct_59 : decode cX11_keepsAct 59 = .ok (.aload_n 0, 1) := by decide +kernel
theorem dX11_keepsAct_60 : decode cX11_keepsAct 60 = .ok (.getfield 96, 3) := by decide +kernel
theorem dX11_keepsAct_63 : decode cX11_keepsAct 63 = .ok (.sipush 283, 3) := by decide +kernel
theorem dX11_keepsAct_66 : decode cX11_keepsAct 66 = .ok (.imul, 1) := by decide +kernel
theorem dX11_keepsAct_67 : decode cX11_keepsAct 67 = .ok (.iload_n 1, 1) := by decide +kernel
theorem dX11_keepsAct_68 : decode cX11_keepsAct 68 = .ok (.iadd, 1) := by decide +kernel
theorem dX11_keepsAct_69 : decode cX11_keepsAct 69 = .ok (.aload_n 0, 1) := by decide +kernel
theorem dX11_keepsAct_70 : decode cX11_keepsAct 70 = .ok (.getfield 13, 3) := by decide +kernel
theorem dX11_keepsAct_73 : decode cX11_keepsAct 73 = .ok (.iload_n 1, 1) := by decide +kernel
theorem dX11_keepsAct_74 : decode cX11_keepsAct 74 = .ok (.iaload, 1) := by decide +kernel
theorem dX11_keepsAct_75 : decode cX11_keepsAct 75 = .ok (.iastore, 1) := by decide +kernel
theorem dX11_keepsAct_76 : decode cX11_keepsAct 76 = .ok (.iinc 1 1, 3) := by decide +kernel
theorem dX11_keepsAct_79 : decode cX11_keepsAct 79 = .ok (.goto (-31), 3) := by decide +kernel
theorem dX11_keepsAct_82 : decode cX11_keepsAct 82 = .ok (.aload_n 0, 1) := by decide +kernel
theorem dX11_keepsAct_83 : decode cX11_keepsAct 83 = .ok (.aload_n 0, 1) := by decide +kernel
theorem dX11_keepsAct_84 : decode cX11_keepsAct 84 = .ok (.getfield 96, 3) := by decide +kernel
theorem dX11_keepsAct_87 : decode cX11_keepsAct 87 = .ok (.iconst 1, 1) := by decide +kernel
theorem dX11_keepsAct_88 : decode cX11_keepsAct 88 = .ok (.iadd, 1) := by decide +kernel
theorem dX11_keepsAct_89 : decode cX11_keepsAct 89 = .ok (.putfield 96, 3) := by decide +kernel
theorem dX11_keepsAct_92 : decode cX11_keepsAct 92 = .ok (.return_, 1) := by decide +kernel
theorem dX11_undo_0 : decode cX11_undo 0 = .ok (.aload_n 0, 1) := by decide +kernel
theorem dX11_undo_1 : decode cX11_undo 1 = .ok (.iconst 0, 1) := by decide +kernel
theorem dX11_undo_2 : decode cX11_undo 2 = .ok (.putfield 1, 3) := by decide +kernel
theorem dX11_undo_5 : decode cX11_undo 5 = .ok (.aload_n 0, 1) := by decide +kernel
theorem dX11_undo_6 : decode cX11_undo 6 = .ok (.getfield 96, 3) := by decide +kernel
theorem dX11_undo_9 : decode cX11_undo 9 = .ok (.ifCond .ne 5, 3) := by decide +kernel
theorem dX11_undo_12 : decode cX11_undo 12 = .ok (.iconst (-1), 1) := by decide +kernel
theorem dX11_undo_13 : decode cX11_undo 13 = .ok (.ireturn, 1) := by decide +kernel
theorem dX11_undo_14 : decode cX11_undo 14 = .ok (.aload_n 0, 1) := by decide +kernel
theorem dX11_undo_15 : decode cX11_undo 15 = .ok (.aload_n 0, 1) := by decide +kernel
theorem dX11_undo_16 : decode cX11_undo 16 = .ok (.getfield 96, 3) := by decide +kernel
theorem dX11_undo_19 : decode cX11_undo 19 = .ok (.iconst 1, 1) := by decide +kernel
theorem dX11_undo_20 : decode cX11_undo 20 = .ok (.isub, 1) := by decide +kernel
theorem dX11_undo_21 : decode cX11_undo 21 = .ok (.putfield 96, 3) := by decide +kernel
theorem dX11_undo_24 : decode cX11_undo 24 = .ok (.iconst 0, 1) := by decide +kernel
theorem dX11_undo_25 : decode cX11_undo 25 = .ok (.istore_n 1, 1) := by decide +kernel
theorem dX11_undo_26 : decode cX11_undo 26 = .ok (.iload_n 1, 1) := by decide +kernel
theorem dX11_undo_27 : decode cX11_undo 27 = .ok (.sipush 283, 3) := by decide +kernel
theorem dX11_undo_30 : decode cX11_undo 30 = .ok (.if_icmp .ge 30, 3) := by decide +kernel
theorem dX11_undo_33 : decode cX11_undo 33 = .ok (.aload_n 0, 1) := by decide +kernel
theorem dX11_undo_34 : decode cX11_undo 34 = .ok (.getfield 13, 3) := by decide +kernel
theorem dX11_undo_37 : decode cX11_undo 37 = .ok (.iload_n 1, 1) := by decide +kernel
theorem dX11_undo_38 : decode cX11_undo 38 = .ok (.aload_n 0, 1) := by decide +kernel
theorem dX11_undo_39 : decode cX11_undo 39 = .ok (.getfield 17, 3) := by decide +kernel
theorem dX11_undo_42 : decode cX11_undo 42 = .ok (.aload_n 0, 1) := by decide +kernel
theorem dX11_undo_43 : decode cX11_undo 43 = .ok (.getfield 96, 3) := by decide +kernel
theorem dX11_undo_46 : decode cX11_undo 46 = .ok (.sipush 283, 3) := by decide +kernel
theorem dX11_undo_49 : decode cX11_undo 49 = .ok (.imul, 1) := by decide +kernel
theorem dX11_undo_50 : decode cX11_undo 50 = .ok (.iload_n 1, 1) := by decide +kernel
theorem dX11_undo_51 : decode cX11_undo 51 = .ok (.iadd, 1) := by decide +kernel
theorem dX11_undo_52 : decode cX11_undo 52 = .ok (.iaload, 1) := by decide +kernel
theorem dX11_undo_53 : decode cX11_undo 53 = .ok (.iastore, 1) := by decide +kernel
theorem dX11_undo_54 : decode cX11_undo 54 = .ok (.iinc 1 1, 3) := by decide +kernel
theorem dX11_undo_57 : decode cX11_undo 57 = .ok (.goto (-31), 3) := by decide +kernel
theorem dX11_undo_60 : decode cX11_undo 60 = .ok (.aload_n 0, 1) := by decide +kernel
theorem dX11_undo_61 : decode cX11_undo 61 = .ok (.iconst 0, 1) := by decide +kernel
theorem dX11_undo_62 : decode cX11_undo 62 = .ok (.putfield 84, 3) := by decide +kernel
theorem dX11_undo_65 : decode cX11_undo 65 = .ok (.aload_n 0, 1) := by decide +kernel
theorem dX11_undo_66 : decode cX11_undo 66 = .ok (.getfield 96, 3) := by decide +kernel
theorem dX11_undo_69 : decode cX11_undo 69 = .ok (.ireturn, 1) := by decide +kernel
theorem dX11_group_0 : decode cX11_group 0 = .ok (.aload_n 0, 1) := by decide +kernel
theorem dX11_group_1 : decode cX11_group 1 = .ok (.iconst 0, 1) := by decide +kernel
theorem dX11_group_2 : decode cX11_group 2 = .ok (.putfield 1, 3) := by decide +kernel
theorem dX11_group_5 : decode cX11_group 5 = .ok (.aload_n 0, 1) := by decide +kernel
theorem dX11_group_6 : decode cX11_group 6 = .ok (.iload_n 1, 1) := by decide +kernel
theorem dX11_group_7 : decode cX11_group 7 = .ok (.i2l, 1) := by decide +kernel
theorem dX11_group_8 : decode cX11_group 8 = .ok (.lconst 1, 1) := by decide +kernel
theorem dX11_group_9 : decode cX11_group 9 = .ok (.ldc2_w 99, 3) := by decide +kernel
theorem dX11_group_12 : decode cX11_group 12 = .ok (.invokevirtual 101, 3) := by decide +kernel
theorem dX11_group_15 : decode cX11_group 15 = .ok (.ifCond .eq 12, 3) := by decide +kernel
theorem dX11_group_18 : decode cX11_group 18 = .ok (.aload_n 0, 1) := by decide +kernel
theorem dX11_group_19 : decode cX11_group 19 = .ok (.iload_n 1, 1) := by decide +kernel
theorem dX11_group_20 : decode cX11_group 20 = .ok (.iload_n 2, 1) := by decide +kernel
theorem dX11_group_21 : decode cX11_group 21 = .ok (.invokevirtual 105, 3) := by decide +kernel
theorem dX11_group_24 : decode cX11_group 24 = .ok (.ifCond .ne 5, 3) := by decide +kernel
theorem dX11_group_27 : decode cX11_group 27 = .ok (.iconst 0, 1) := by decide +kernel
theorem dX11_group_28 : decode cX11_group 28 = .ok (.ireturn, 1) := by decide +kernel
theorem dX11_group_29 : decode cX11_group 29 = .ok (.aload_n 0, 1) := by decide +kernel
theorem dX11_group_30 : decode cX11_group 30 = .ok (.invokevirtual 109, 3) := by decide +kernel
theorem dX11_group_33 : decode cX11_group 33 = .ok (.aload_n 0, 1) := by decide +kernel
theorem dX11_group_34 : decode cX11_group 34 = .ok (.iload_n 1, 1) := by decide +kernel
theorem dX11_group_35 : decode cX11_group 35 = .ok (.invokevirtual 76, 3) := by decide +kernel
theorem dX11_group_38 : decode cX11_group 38 = .ok (.iconst 0, 1) := by decide +kernel
theorem dX11_group_39 : decode cX11_group 39 = .ok (.istore_n 3, 1) := by decide +kernel
theorem dX11_group_40 : decode cX11_group 40 = .ok (.iload_n 3, 1) := by decide +kernel
theorem dX11_group_41 : decode cX11_group 41 = .ok (.iload_n 1, 1) := by decide +kernel
theorem dX11_group_42 : decode cX11_group 42 = .ok (.if_icmp .ge 24, 3) := by decide +kernel
theorem dX11_group_45 : decode cX11_group 45 = .ok (.aload_n 0, 1) := by decide +kernel
theorem dX11_group_46 : decode cX11_group 46 = .ok (.getfield 13, 3) := by decide +kernel
theorem dX11_group_49 : decode cX11_group 49 = .ok (.iconst 1, 1) := by decide +kernel
theorem dX11_group_50 : decode cX11_group 50 = .ok (.iload_n 3, 1) := by decide +kernel
theorem dX11_group_51 : decode cX11_group 51 = .ok (.iadd, 1) := by decide +kernel
theorem dX11_group_52 : decode cX11_group 52 = .ok (.iload_n 2, 1) := by decide +kernel
theorem dX11_group_53 : decode cX11_group 53 = .ok (.iconst 2, 1) := by decide +kernel
theorem dX11_group_54 : decode cX11_group 54 = .ok (.iload_n 3, 1) := by decide +kernel
theorem dX11_group_55 : decode cX11_group 55 = .ok (.imul, 1) := by decide +kernel
theorem dX11_group_56 : decode cX11_group 56 = .ok (.ishr, 1) := by decide +kernel
theorem dX11_group_57 : decode cX11_group 57 = .ok (.iconst 3, 1) := by decide +kernel
theorem dX11_group_58 : decode cX11_group 58 = .ok (.iand, 1) := by decide +kernel
theorem dX11_group_59 : decode cX11_group 59 = .ok (.iastore, 1) := by decide +kernel
theorem dX11_group_60 : decode cX11_group 60 = .ok (.iinc 3 1, 3) := by decide +kernel
theorem dX11_group_63 : decode cX11_group 63 = .ok (.goto (-23), 3) := by decide +kernel
theorem dX11_group_66 : decode cX11_group 66 = .ok (.iconst 1, 1) := by decide +kernel
theorem dX11_group_67 : decode cX11_group 67 = .ok (.ireturn, 1) := by decide +kernel
theorem dX11_areWeights_0 : decode cX11_areWeights 0 = .ok (.aload_n 0, 1) := by decide +kernel
theorem dX11_areWeights_1 : decode cX11_areWeights 1 = .ok (.iload_n 2, 1) := by decide +kernel
theorem dX11_areWeights_2 : decode cX11_areWeights 2 = .ok (.i2l, 1) := by decide +kernel
theorem dX11_areWeights_3 : decode cX11_areWeights 3 = .ok (.lconst 0, 1) := by decide +kernel
theorem dX11_areWeights_4 : decode cX11_areWeights 4 = .ok (.ldc2_w 112, 3) := by decide +kernel
theorem dX11_areWeights_7 : decode cX11_areWeights 7 = .ok (.invokevirtual 101, 3) := by decide +kernel
theorem dX11_areWeights_10 : decode cX11_areWeights 10 = .ok (.ifCond .ne 5, 3) := by decide +kernel
theorem dX11_areWeights_13 : decode cX11_areWeights 13 = .ok (.iconst 0, 1) := by decide +kernel
theorem dX11_areWeights_14 : decode cX11_areWeights 14 = .ok (.ireturn, 1) := by decide +kernel
theorem dX11_areWeights_15 : decode cX11_areWeights 15 = .ok (.iconst 1, 1) := by decide +kernel
theorem dX11_areWeights_16 : decode cX11_areWeights 16 = .ok (.istore_n 3, 1) := by decide +kernel
theorem dX11_areWeights_17 : decode cX11_areWeights 17 = .ok (.iconst 0, 1) := by decide +kernel
theorem dX11_areWeights_18 : decode cX11_areWeights 18 = .ok (.istore 4, 2) := by decide +kernel
theorem dX11_areWeights_20 : decode cX11_areWeights 20 = .ok (.iload 4, 2) := by decide +kernel
theorem dX11_areWeights_22 : decode cX11_areWeights 22 = .ok (.bipush 6, 2) := by decide +kernel
theorem dX11_areWeights_24 : decode cX11_areWeights 24 = .ok (.if_icmp .ge 44, 3) := by decide +kernel
theorem dX11_areWeights_27 : decode cX11_areWeights 27 = .ok (.iload_n 2, 1) := by decide +kernel
theorem dX11_areWeights_28 : decode cX11_areWeights 28 = .ok (.iconst 2, 1) := by decide +kernel
theorem dX11_areWeights_29 : decode cX11_areWeights 29 = .ok (.iload 4, 2) := by decide +kernel
theorem dX11_areWeights_31 : decode cX11_areWeights 31 = .ok (.imul, 1) := by decide +kernel
theorem dX11_areWeights_32 : decode cX11_areWeights 32 = .ok (.ishr, 1) := by decide +kernel
theorem dX11_areWeights_33 : decode cX11_areWeights 33 = .ok (.iconst 3, 1) := by decide +kernel
theorem dX11_areWeights_34 : decode cX11_areWeights 34 = .ok (.iand, 1) := by decide +kernel
theorem dX11_areWeights_35 : decode cX11_areWeights 35 = .ok (.istore 5, 2) := by decide +kernel
theorem dX11_areWeights_37 : decode cX11_areWeights 37 = .ok (.iload 4, 2) := by decide +kernel
theorem dX11_areWeights_39 : decode cX11_areWeights 39 = .ok (.iload_n 1, 1) := by decide +kernel
theorem dX11_areWeights_40 : decode cX11_areWeights 40 = .ok (.if_icmp .ge 12, 3) := by decide +kernel
theorem dX11_areWeights_43 : decode cX11_areWeights 43 = .ok (.iload 5, 2) := by decide +kernel
theorem dX11_areWeights_45 : decode cX11_areWeights 45 = .ok (.iload_n 3, 1) := by decide +kernel
theorem dX11_areWeights_46 : decode cX11_areWeights 46 = .ok (.if_icmp .ge 13, 3) := by decide +kernel
theorem dX11_areWeights_49 : decode cX11_areWeights 49 = .ok (.goto 8, 3) := by decide +kernel
theorem dX11_areWeights_52 : decode cX11_areWeights 52 = .ok (.iload 5, 2) := by decide +kernel
theorem dX11_areWeights_54 : decode cX11_areWeights 54 = .ok (.ifCond .le 5, 3) := by decide +kernel
theorem dX11_areWeights_57 : decode cX11_areWeights 57 = .ok (.iconst 0, 1) := by decide +kernel
theorem dX11_areWeights_58 : decode cX11_areWeights 58 = .ok (.ireturn, 1) := by decide +kernel
theorem dX11_areWeights_59 : decode cX11_areWeights 59 = .ok (.iload 5, 2) := by decide +kernel
theorem dX11_areWeights_61 : decode cX11_areWeights 61 = .ok (.istore_n 3, 1) := by decide +kernel
theorem dX11_areWeights_62 : decode cX11_areWeights 62 = .ok (.iinc 4 1, 3) := by decide +kernel
theorem dX11_areWeights_65 : decode cX11_areWeights 65 = .ok (.goto (-45), 3) := by decide +kernel
theorem dX11_areWeights_68 : decode cX11_areWeights 68 = .ok (.iconst 1, 1) := by decide +kernel
theorem dX11_areWeights_69 : decode cX11_areWeights 69 = .ok (.ireturn, 1) := by decide +kernel
theorem dX11_isTail_0 : decode cX11_isTail 0 = .ok (.aload_n 0, 1) := by decide +kernel
theorem dX11_isTail_1 : decode cX11_isTail 1 = .ok (.iload_n 2, 1) := by decide +kernel
theorem dX11_isTail_2 : decode cX11_isTail 2 = .ok (.i2l, 1) := by decide +kernel
theorem dX11_isTail_3 : decode cX11_isTail 3 = .ok (.lconst 1, 1) := by decide +kernel
theorem dX11_isTail_4 : decode cX11_isTail 4 = .ok (.aload_n 0, 1) := by decide +kernel
theorem dX11_isTail_5 : decode cX11_isTail 5 = .ok (.invokevirtual 88, 3) := by decide +kernel
theorem dX11_isTail_8 : decode cX11_isTail 8 = .ok (.i2l, 1) := by decide +kernel
theorem dX11_isTail_9 : decode cX11_isTail 9 = .ok (.invokevirtual 101, 3) := by decide +kernel
theorem dX11_isTail_12 : decode cX11_isTail 12 = .ok (.ifCond .eq 43, 3) := by decide +kernel
theorem dX11_isTail_15 : decode cX11_isTail 15 = .ok (.aload_n 0, 1) := by decide +kernel
theorem dX11_isTail_16 : decode cX11_isTail 16 = .ok (.iload_n 1, 1) := by decide +kernel
theorem dX11_isTail_17 : decode cX11_isTail 17 = .ok (.i2l, 1) := by decide +kernel
theorem dX11_isTail_18 : decode cX11_isTail 18 = .ok (.iload_n 2, 1) := by decide +kernel
theorem dX11_isTail_19 : decode cX11_isTail 19 = .ok (.i2l, 1) := by decide +kernel
theorem dX11_isTail_20 : decode cX11_isTail 20 = .ok (.lconst 1, 1) := by decide +kernel
theorem dX11_isTail_21 : decode cX11_isTail 21 = .ok (.ladd, 1) := by decide +kernel
theorem dX11_isTail_22 : decode cX11_isTail 22 = .ok (.aload_n 0, 1) := by decide +kernel
theorem dX11_isTail_23 : decode cX11_isTail 23 = .ok (.invokevirtual 88, 3) := by decide +kernel
theorem dX11_isTail_26 : decode cX11_isTail 26 = .ok (.i2l, 1) := by decide +kernel
theorem dX11_isTail_27 : decode cX11_isTail 27 = .ok (.invokevirtual 101, 3) := by decide +kernel
theorem dX11_isTail_30 : decode cX11_isTail 30 = .ok (.ifCond .eq 25, 3) := by decide +kernel
theorem dX11_isTail_33 : decode cX11_isTail 33 = .ok (.aload_n 0, 1) := by decide +kernel
theorem dX11_isTail_34 : decode cX11_isTail 34 = .ok (.iload_n 3, 1) := by decide +kernel
theorem dX11_isTail_35 : decode cX11_isTail 35 = .ok (.i2l, 1) := by decide +kernel
theorem dX11_isTail_36 : decode cX11_isTail 36 = .ok (.iload_n 1, 1) := by decide +kernel
theorem dX11_isTail_37 : decode cX11_isTail 37 = .ok (.i2l, 1) := by decide +kernel
theorem dX11_isTail_38 : decode cX11_isTail 38 = .ok (.lconst 1, 1) := by decide +kernel
theorem dX11_isTail_39 : decode cX11_isTail 39 = .ok (.ladd, 1) := by decide +kernel
theorem dX11_isTail_40 : decode cX11_isTail 40 = .ok (.aload_n 0, 1) := by decide +kernel
theorem dX11_isTail_41 : decode cX11_isTail 41 = .ok (.invokevirtual 88, 3) := by decide +kernel
theorem dX11_isTail_44 : decode cX11_isTail 44 = .ok (.i2l, 1) := by decide +kernel
theorem dX11_isTail_45 : decode cX11_isTail 45 = .ok (.invokevirtual 101, 3) := by decide +kernel
theorem dX11_isTail_48 : decode cX11_isTail 48 = .ok (.ifCond .eq 7, 3) := by decide +kernel
theorem dX11_isTail_51 : decode cX11_isTail 51 = .ok (.iconst 1, 1) := by decide +kernel
theorem dX11_isTail_52 : decode cX11_isTail 52 = .ok (.goto 4, 3) := by decide +kernel
theorem dX11_isTail_55 : decode cX11_isTail 55 = .ok (.iconst 0, 1) := by decide +kernel
theorem dX11_isTail_56 : decode cX11_isTail 56 = .ok (.ireturn, 1) := by decide +kernel
theorem dX11_tail__0 : decode cX11_tail_ 0 = .ok (.aload_n 0, 1) := by decide +kernel
theorem dX11_tail__1 : decode cX11_tail_ 1 = .ok (.iconst 0, 1) := by decide +kernel
theorem dX11_tail__2 : decode cX11_tail_ 2 = .ok (.putfield 1, 3) := by decide +kernel
theorem dX11_tail__5 : decode cX11_tail_ 5 = .ok (.aload_n 0, 1) := by decide +kernel
theorem dX11_tail__6 : decode cX11_tail_ 6 = .ok (.iload_n 1, 1) := by decide +kernel
theorem dX11_tail__7 : decode cX11_tail_ 7 = .ok (.iload_n 2, 1) := by decide +kernel
theorem dX11_tail__8 : decode cX11_tail_ 8 = .ok (.iload_n 3, 1) := by decide +kernel
theorem dX11_tail__9 : decode cX11_tail_ 9 = .ok (.invokevirtual 114, 3) := by decide +kernel
theorem dX11_tail__12 : decode cX11_tail_ 12 = .ok (.ifCond .eq 47, 3) := by decide +kernel
theorem dX11_tail__15 : decode cX11_tail_ 15 = .ok (.aload_n 0, 1) := by decide +kernel
theorem dX11_tail__16 : decode cX11_tail_ 16 = .ok (.iload 4, 2) := by decide +kernel
theorem dX11_tail__18 : decode cX11_tail_ 18 = .ok (.i2l, 1) := by decide +kernel
theorem dX11_tail__19 : decode cX11_tail_ 19 = .ok (.lconst 0, 1) := by decide +kernel
theorem dX11_tail__20 : decode cX11_tail_ 20 = .ok (.ldc2_w 118, 3) := by decide +kernel
theorem dX11_tail__23 : decode cX11_tail_ 23 = .ok (.invokevirtual 101, 3) := by decide +kernel
theorem dX11_tail__26 : decode cX11_tail_ 26 = .ok (.ifCond .eq 33, 3) := by decide +kernel
theorem dX11_tail__29 : decode cX11_tail_ 29 = .ok (.iload 4, 2) := by decide +kernel
theorem dX11_tail__31 : decode cX11_tail_ 31 = .ok (.ifCond .le 30, 3) := by decide +kernel
theorem dX11_tail__34 : decode cX11_tail_ 34 = .ok (.aload_n 0, 1) := by decide +kernel
theorem dX11_tail__35 : decode cX11_tail_ 35 = .ok (.iload_n 3, 1) := by decide +kernel
theorem dX11_tail__36 : decode cX11_tail_ 36 = .ok (.iconst 1, 1) := by decide +kernel
theorem dX11_tail__37 : decode cX11_tail_ 37 = .ok (.isub, 1) := by decide +kernel
theorem dX11_tail__38 : decode cX11_tail_ 38 = .ok (.invokevirtual 92, 3) := by decide +kernel
theorem dX11_tail__41 : decode cX11_tail_ 41 = .ok (.aload_n 0, 1) := by decide +kernel
theorem dX11_tail__42 : decode cX11_tail_ 42 = .ok (.iload_n 2, 1) := by decide +kernel
theorem dX11_tail__43 : decode cX11_tail_ 43 = .ok (.iconst 1, 1) := by decide +kernel
theorem dX11_tail__44 : decode cX11_tail_ 44 = .ok (.isub, 1) := by decide +kernel
theorem dX11_tail__45 : decode cX11_tail_ 45 = .ok (.invokevirtual 92, 3) := by decide +kernel
theorem dX11_tail__48 : decode cX11_tail_ 48 = .ok (.aload_n 0, 1) := by decide +kernel
theorem dX11_tail__49 : decode cX11_tail_ 49 = .ok (.iload_n 1, 1) := by decide +kernel
theorem dX11_tail__50 : decode cX11_tail_ 50 = .ok (.iconst 1, 1) := by decide +kernel
theorem dX11_tail__51 : decode cX11_tail_ 51 = .ok (.isub, 1) := by decide +kernel
theorem dX11_tail__52 : decode cX11_tail_ 52 = .ok (.invokevirtual 92, 3) := by decide +kernel
theorem dX11_tail__55 : decode cX11_tail_ 55 = .ok (.iadd, 1) := by decide +kernel
theorem dX11_tail__56 : decode cX11_tail_ 56 = .ok (.if_icmp .ge 5, 3) := by decide +kernel
theorem dX11_tail__59 : decode cX11_tail_ 59 = .ok (.iconst 0, 1) := by decide +kernel
theorem dX11_tail__60 : decode cX11_tail_ 60 = .ok (.ireturn, 1) := by decide +kernel
theorem dX11_tail__61 : decode cX11_tail_ 61 = .ok (.aload_n 0, 1) := by decide +kernel
theorem dX11_tail__62 : decode cX11_tail_ 62 = .ok (.invokevirtual 109, 3) := by decide +kernel
theorem dX11_tail__65 : decode cX11_tail_ 65 = .ok (.aload_n 0, 1) := by decide +kernel
theorem dX11_tail__66 : decode cX11_tail_ 66 = .ok (.invokevirtual 120, 3) := by decide +kernel
theorem dX11_tail__69 : decode cX11_tail_ 69 = .ok (.aload_n 0, 1) := by decide +kernel
theorem dX11_tail__70 : decode cX11_tail_ 70 = .ok (.iload_n 1, 1) := by decide +kernel
theorem dX11_tail__71 : decode cX11_tail_ 71 = .ok (.iconst 1, 1) := by decide +kernel
theorem dX11_tail__72 : decode cX11_tail_ 72 = .ok (.isub, 1) := by decide +kernel
theorem dX11_tail__73 : decode cX11_tail_ 73 = .ok (.iload_n 2, 1) := by decide +kernel
theorem dX11_tail__74 : decode cX11_tail_ 74 = .ok (.iconst 1, 1) := by decide +kernel
theorem dX11_tail__75 : decode cX11_tail_ 75 = .ok (.isub, 1) := by decide +kernel
theorem dX11_tail__76 : decode cX11_tail_ 76 = .ok (.iload_n 3, 1) := by decide +kernel
theorem dX11_tail__77 : decode cX11_tail_ 77 = .ok (.iconst 1, 1) := by decide +kernel
theorem dX11_tail__78 : decode cX11_tail_ 78 = .ok (.isub, 1) := by decide +kernel
theorem dX11_tail__79 : decode cX11_tail_ 79 = .ok (.iload 4, 2) := by decide +kernel
theorem dX11_tail__81 : decode cX11_tail_ 81 = .ok (.invokevirtual 80, 3) := by decide +kernel
theorem dX11_tail__84 : decode cX11_tail_ 84 = .ok (.iconst 1, 1) := by decide +kernel
theorem dX11_tail__85 : decode cX11_tail_ 85 = .ok (.ireturn, 1) := by decide +kernel
theorem dX11_onesAll_0 : decode cX11_onesAll 0 = .ok (.sipush 223, 3) := by decide +kernel
theorem dX11_onesAll_3 : decode cX11_onesAll 3 = .ok (.istore_n 1, 1) := by decide +kernel
theorem dX11_onesAll_4 : decode cX11_onesAll 4 = .ok (.iload_n 1, 1) := by decide +kernel
theorem dX11_onesAll_5 : decode cX11_onesAll 5 = .ok (.sipush 283, 3) := by decide +kernel
theorem dX11_onesAll_8 : decode cX11_onesAll 8 = .ok (.if_icmp .ge 16, 3) := by decide +kernel
theorem dX11_onesAll_11 : decode cX11_onesAll 11 = .ok (.aload_n 0, 1) := by decide +kernel
theorem dX11_onesAll_12 : decode cX11_onesAll 12 = .ok (.getfield 13, 3) := by decide +kernel
theorem dX11_onesAll_15 : decode cX11_onesAll 15 = .ok (.iload_n 1, 1) := by decide +kernel
theorem dX11_onesAll_16 : decode cX11_onesAll 16 = .ok (.iconst 0, 1) := by decide +kernel
theorem dX11_onesAll_17 : decode cX11_onesAll 17 = .ok (.iastore, 1) := by decide +kernel
theorem dX11_onesAll_18 : decode cX11_onesAll 18 = .ok (.iinc 1 1, 3) := by decide +kernel
theorem dX11_onesAll_21 : decode cX11_onesAll 21 = .ok (.goto (-17), 3) := by decide +kernel
theorem dX11_onesAll_24 : decode cX11_onesAll 24 = .ok (.return_, 1) := by decide +kernel
theorem dX11_weighs_0 : decode cX11_weighs 0 = .ok (.aload_n 0, 1) := by decide +kernel
theorem dX11_weighs_1 : decode cX11_weighs 1 = .ok (.getfield 13, 3) := by decide +kernel
theorem dX11_weighs_4 : decode cX11_weighs 4 = .ok (.iconst 1, 1) := by decide +kernel
theorem dX11_weighs_5 : decode cX11_weighs 5 = .ok (.iload_n 1, 1) := by decide +kernel
theorem dX11_weighs_6 : decode cX11_weighs 6 = .ok (.iastore, 1) := by decide +kernel
theorem dX11_weighs_7 : decode cX11_weighs 7 = .ok (.aload_n 0, 1) := by decide +kernel
theorem dX11_weighs_8 : decode cX11_weighs 8 = .ok (.getfield 13, 3) := by decide +kernel
theorem dX11_weighs_11 : decode cX11_weighs 11 = .ok (.iconst 2, 1) := by decide +kernel
theorem dX11_weighs_12 : decode cX11_weighs 12 = .ok (.iload_n 2, 1) := by decide +kernel
theorem dX11_weighs_13 : decode cX11_weighs 13 = .ok (.iastore, 1) := by decide +kernel
theorem dX11_weighs_14 : decode cX11_weighs 14 = .ok (.aload_n 0, 1) := by decide +kernel
theorem dX11_weighs_15 : decode cX11_weighs 15 = .ok (.getfield 13, 3) := by decide +kernel
theorem dX11_weighs_18 : decode cX11_weighs 18 = .ok (.iconst 3, 1) := by decide +kernel
theorem dX11_weighs_19 : decode cX11_weighs 19 = .ok (.iload_n 3, 1) := by decide +kernel
theorem dX11_weighs_20 : decode cX11_weighs 20 = .ok (.iastore, 1) := by decide +kernel
theorem dX11_weighs_21 : decode cX11_weighs 21 = .ok (.aload_n 0, 1) := by decide +kernel
theorem dX11_weighs_22 : decode cX11_weighs 22 = .ok (.getfield 13, 3) := by decide +kernel
theorem dX11_weighs_25 : decode cX11_weighs 25 = .ok (.iconst 4, 1) := by decide +kernel
theorem dX11_weighs_26 : decode cX11_weighs 26 = .ok (.iload 4, 2) := by decide +kernel
theorem dX11_weighs_28 : decode cX11_weighs 28 = .ok (.iastore, 1) := by decide +kernel
theorem dX11_weighs_29 : decode cX11_weighs 29 = .ok (.aload_n 0, 1) := by decide +kernel
theorem dX11_weighs_30 : decode cX11_weighs 30 = .ok (.getfield 13, 3) := by decide +kernel
theorem dX11_weighs_33 : decode cX11_weighs 33 = .ok (.iconst 5, 1) := by decide +kernel
theorem dX11_weighs_34 : decode cX11_weighs 34 = .ok (.iload 5, 2) := by decide +kernel
theorem dX11_weighs_36 : decode cX11_weighs 36 = .ok (.iastore, 1) := by decide +kernel
theorem dX11_weighs_37 : decode cX11_weighs 37 = .ok (.aload_n 0, 1) := by decide +kernel
theorem dX11_weighs_38 : decode cX11_weighs 38 = .ok (.getfield 13, 3) := by decide +kernel
theorem dX11_weighs_41 : decode cX11_weighs 41 = .ok (.bipush 6, 2) := by decide +kernel
theorem dX11_weighs_43 : decode cX11_weighs 43 = .ok (.iload 6, 2) := by decide +kernel
theorem dX11_weighs_45 : decode cX11_weighs 45 = .ok (.iastore, 1) := by decide +kernel
theorem dX11_weighs_46 : decode cX11_weighs 46 = .ok (.return_, 1) := by decide +kernel
theorem dX11_kind_0 : decode cX11_kind 0 = .ok (.aload_n 0, 1) := by decide +kernel
theorem dX11_kind_1 : decode cX11_kind 1 = .ok (.iconst 0, 1) := by decide +kernel
theorem dX11_kind_2 : decode cX11_kind 2 = .ok (.putfield 1, 3) := by decide +kernel
theorem dX11_kind_5 : decode cX11_kind 5 = .ok (.aload_n 0, 1) := by decide +kernel
theorem dX11_kind_6 : decode cX11_kind 6 = .ok (.iload_n 1, 1) := by decide +kernel
theorem dX11_kind_7 : decode cX11_kind 7 = .ok (.i2l, 1) := by decide +kernel
theorem dX11_kind_8 : decode cX11_kind 8 = .ok (.lconst 0, 1) := by decide +kernel
theorem dX11_kind_9 : decode cX11_kind 9 = .ok (.ldc2_w 118, 3) := by decide +kernel
theorem dX11_kind_12 : decode cX11_kind 12 = .ok (.invokevirtual 101, 3) := by decide +kernel
theorem dX11_kind_15 : decode cX11_kind 15 = .ok (.ifCond .ne 5, 3) := by decide +kernel
theorem dX11_kind_18 : decode cX11_kind 18 = .ok (.iconst 0, 1) := by decide +kernel
theorem dX11_kind_19 : decode cX11_kind 19 = .ok (.ireturn, 1) := by decide +kernel
theorem dX11_kind_20 : decode cX11_kind 20 = .ok (.aload_n 0, 1) := by decide +kernel
theorem dX11_kind_21 : decode cX11_kind 21 = .ok (.invokevirtual 109, 3) := by decide +kernel
theorem dX11_kind_24 : decode cX11_kind 24 = .ok (.iload_n 1, 1) := by decide +kernel
theorem dX11_kind_25 : decode cX11_kind 25 = .ok (.ifCond .ne 9, 3) := by decide +kernel
theorem dX11_kind_28 : decode cX11_kind 28 = .ok (.aload_n 0, 1) := by decide +kernel
theorem dX11_kind_29 : decode cX11_kind 29 = .ok (.invokevirtual 73, 3) := by decide +kernel
theorem dX11_kind_32 : decode cX11_kind 32 = .ok (.iconst 1, 1) := by decide +kernel
theorem dX11_kind_33 : decode cX11_kind 33 = .ok (.ireturn, 1) := by decide +kernel
theorem dX11_kind_34 : decode cX11_kind 34 = .ok (.aload_n 0, 1) := by decide +kernel
theorem dX11_kind_35 : decode cX11_kind 35 = .ok (.iload_n 1, 1) := by decide +kernel
theorem dX11_kind_36 : decode cX11_kind 36 = .ok (.iconst 1, 1) := by decide +kernel
theorem dX11_kind_37 : decode cX11_kind 37 = .ok (.if_icmp .ne 7, 3) := by decide +kernel
theorem dX11_kind_40 : decode cX11_kind 40 = .ok (.iconst 5, 1) := by decide +kernel
theorem dX11_kind_41 : decode cX11_kind 41 = .ok (.goto 5, 3) := by decide +kernel
theorem dX11_kind_44 : decode cX11_kind 44 = .ok (.bipush 6, 2) := by decide +kernel
theorem dX11_kind_46 : decode cX11_kind 46 = .ok (.invokevirtual 76, 3) := by decide +kernel
theorem dX11_kind_49 : decode cX11_kind 49 = .ok (.iload_n 1, 1) := by decide +kernel
theorem dX11_kind_50 : decode cX11_kind 50 = .ok (.iconst 1, 1) := by decide +kernel
theorem dX11_kind_51 : decode cX11_kind 51 = .ok (.if_icmp .ne 13, 3) := by decide +kernel
theorem dX11_kind_54 : decode cX11_kind 54 = .ok (.aload_n 0, 1) := by decide +kernel
theorem dX11_kind_55 : decode cX11_kind 55 = .ok (.iconst 1, 1) := by decide +kernel
theorem dX11_kind_56 : decode cX11_kind 56 = .ok (.iconst 1, 1) := by decide +kernel
theorem dX11_kind_57 : decode cX11_kind 57 = .ok (.iconst 2, 1) := by decide +kernel
theorem dX11_kind_58 : decode cX11_kind 58 = .ok (.iconst 3, 1) := by decide +kernel
theorem dX11_kind_59 : decode cX11_kind 59 = .ok (.iconst 3, 1) := by decide +kernel
theorem dX11_kind_60 : decode cX11_kind 60 = .ok (.iconst 0, 1) := by decide +kernel
theorem dX11_kind_61 : decode cX11_kind 61 = .ok (.invokevirtual 123, 3) := by decide +kernel
theorem dX11_kind_64 : decode cX11_kind 64 = .ok (.iload_n 1, 1) := by decide +kernel
theorem dX11_kind_65 : decode cX11_kind 65 = .ok (.iconst 2, 1) := by decide +kernel
theorem dX11_kind_66 : decode cX11_kind 66 = .ok (.if_icmp .ne 13, 3) := by decide +kernel
theorem dX11_kind_69 : decode cX11_kind 69 = .ok (.aload_n 0, 1) := by decide +kernel
theorem dX11_kind_70 : decode cX11_kind 70 = .ok (.iconst 1, 1) := by decide +kernel
theorem dX11_kind_71 : decode cX11_kind 71 = .ok (.iconst 1, 1) := by decide +kernel
theorem dX11_kind_72 : decode cX11_kind 72 = .ok (.iconst 1, 1) := by decide +kernel
theorem dX11_kind_73 : decode cX11_kind 73 = .ok (.iconst 2, 1) := by decide +kernel
theorem dX11_kind_74 : decode cX11_kind 74 = .ok (.iconst 2, 1) := by decide +kernel
theorem dX11_kind_75 : decode cX11_kind 75 = .ok (.iconst 3, 1) := by decide +kernel
theorem dX11_kind_76 : decode cX11_kind 76 = .ok (.invokevirtual 123, 3) := by decide +kernel
theorem dX11_kind_79 : decode cX11_kind 79 = .ok (.iload_n 1, 1) := by decide +kernel
theorem dX11_kind_80 : decode cX11_kind 80 = .ok (.iconst 3, 1) := by decide +kernel
theorem dX11_kind_81 : decode cX11_kind 81 = .ok (.if_icmp .ne 13, 3) := by decide +kernel
theorem dX11_kind_84 : decode cX11_kind 84 = .ok (.aload_n 0, 1) := by decide +kernel
theorem dX11_kind_85 : decode cX11_kind 85 = .ok (.iconst 1, 1) := by decide +kernel
theorem dX11_kind_86 : decode cX11_kind 86 = .ok (.iconst 1, 1) := by decide +kernel
theorem dX11_kind_87 : decode cX11_kind 87 = .ok (.iconst 1, 1) := by decide +kernel
theorem dX11_kind_88 : decode cX11_kind 88 = .ok (.iconst 1, 1) := by decide +kernel
theorem dX11_kind_89 : decode cX11_kind 89 = .ok (.iconst 1, 1) := by decide +kernel
theorem dX11_kind_90 : decode cX11_kind 90 = .ok (.iconst 1, 1) := by decide +kernel
theorem dX11_kind_91 : decode cX11_kind 91 = .ok (.invokevirtual 123, 3) := by decide +kernel
theorem dX11_kind_94 : decode cX11_kind 94 = .ok (.iload_n 1, 1) := by decide +kernel
theorem dX11_kind_95 : decode cX11_kind 95 = .ok (.iconst 1, 1) := by decide +kernel
theorem dX11_kind_96 : decode cX11_kind 96 = .ok (.if_icmp .ne 27, 3) := by decide +kernel
theorem dX11_kind_99 : decode cX11_kind 99 = .ok (.aload_n 0, 1) := by decide +kernel
theorem dX11_kind_100 : decode cX11_kind 100 = .ok (.iconst 1, 1) := by decide +kernel
theorem dX11_kind_101 : decode cX11_kind 101 = .ok (.iconst 0, 1) := by decide +kernel
theorem dX11_kind_102 : decode cX11_kind 102 = .ok (.iconst 2, 1) := by decide +kernel
theorem dX11_kind_103 : decode cX11_kind 103 = .ok (.iconst 1, 1) := by decide +kernel
theorem dX11_kind_104 : decode cX11_kind 104 = .ok (.invokevirtual 80, 3) := by decide +kernel
theorem dX11_kind_107 : decode cX11_kind 107 = .ok (.aload_n 0, 1) := by decide +kernel
theorem dX11_kind_108 : decode cX11_kind 108 = .ok (.iconst 2, 1) := by decide +kernel
theorem dX11_kind_109 : decode cX11_kind 109 = .ok (.iconst 0, 1) := by decide +kernel
theorem dX11_kind_110 : decode cX11_kind 110 = .ok (.iconst 3, 1) := by decide +kernel
theorem dX11_kind_111 : decode cX11_kind 111 = .ok (.iconst 1, 1) := by decide +kernel
theorem dX11_kind_112 : decode cX11_kind 112 = .ok (.invokevirtual 80, 3) := by decide +kernel
theorem dX11_kind_115 : decode cX11_kind 115 = .ok (.aload_n 0, 1) := by decide +kernel
theorem dX11_kind_116 : decode cX11_kind 116 = .ok (.iconst 2, 1) := by decide +kernel
theorem dX11_kind_117 : decode cX11_kind 117 = .ok (.iconst 1, 1) := by decide +kernel
theorem dX11_kind_118 : decode cX11_kind 118 = .ok (.iconst 4, 1) := by decide +kernel
theorem dX11_kind_119 : decode cX11_kind 119 = .ok (.iconst 1, 1) := by decide +kernel
theorem dX11_kind_120 : decode cX11_kind 120 = .ok (.invokevirtual 80, 3) := by decide +kernel
theorem dX11_kind_123 : decode cX11_kind 123 = .ok (.iload_n 1, 1) := by decide +kernel
theorem dX11_kind_124 : decode cX11_kind 124 = .ok (.iconst 2, 1) := by decide +kernel
theorem dX11_kind_125 : decode cX11_kind 125 = .ok (.if_icmp .ne 35, 3) := by decide +kernel
theorem dX11_kind_128 : decode cX11_kind 128 = .ok (.aload_n 0, 1) := by decide +kernel
theorem dX11_kind_129 : decode cX11_kind 129 = .ok (.iconst 2, 1) := by decide +kernel
theorem dX11_kind_130 : decode cX11_kind 130 = .ok (.iconst 0, 1) := by decide +kernel
theorem dX11_kind_131 : decode cX11_kind 131 = .ok (.iconst 3, 1) := by decide +kernel
theorem dX11_kind_132 : decode cX11_kind 132 = .ok (.iconst 1, 1) := by decide +kernel
theorem dX11_kind_133 : decode cX11_kind 133 = .ok (.invokevirtual 80, 3) := by decide +kernel
theorem dX11_kind_136 : decode cX11_kind 136 = .ok (.aload_n 0, 1) := by decide +kernel
theorem dX11_kind_137 : decode cX11_kind 137 = .ok (.iconst 2, 1) := by decide +kernel
theorem dX11_kind_138 : decode cX11_kind 138 = .ok (.iconst 1, 1) := by decide +kernel
theorem dX11_kind_139 : decode cX11_kind 139 = .ok (.iconst 4, 1) := by decide +kernel
theorem dX11_kind_140 : decode cX11_kind 140 = .ok (.iconst 1, 1) := by decide +kernel
theorem dX11_kind_141 : decode cX11_kind 141 = .ok (.invokevirtual 80, 3) := by decide +kernel
theorem dX11_kind_144 : decode cX11_kind 144 = .ok (.aload_n 0, 1) := by decide +kernel
theorem dX11_kind_145 : decode cX11_kind 145 = .ok (.iconst 3, 1) := by decide +kernel
theorem dX11_kind_146 : decode cX11_kind 146 = .ok (.iconst 1, 1) := by decide +kernel
theorem dX11_kind_147 : decode cX11_kind 147 = .ok (.iconst 5, 1) := by decide +kernel
theorem dX11_kind_148 : decode cX11_kind 148 = .ok (.iconst 1, 1) := by decide +kernel
theorem dX11_kind_149 : decode cX11_kind 149 = .ok (.invokevirtual 80, 3) := by decide +kernel
theorem dX11_kind_152 : decode cX11_kind 152 = .ok (.aload_n 0, 1) := by decide +kernel
theorem dX11_kind_153 : decode cX11_kind 153 = .ok (.iconst 4, 1) := by decide +kernel
theorem dX11_kind_154 : decode cX11_kind 154 = .ok (.iconst 0, 1) := by decide +kernel
theorem dX11_kind_155 : decode cX11_kind 155 = .ok (.iconst 5, 1) := by decide +kernel
theorem dX11_kind_156 : decode cX11_kind 156 = .ok (.iconst 1, 1) := by decide +kernel
theorem dX11_kind_157 : decode cX11_kind 157 = .ok (.invokevirtual 80, 3) := by decide +kernel
theorem dX11_kind_160 : decode cX11_kind 160 = .ok (.iconst 1, 1) := by decide +kernel
theorem dX11_kind_161 : decode cX11_kind 161 = .ok (.ireturn, 1) := by decide +kernel
theorem dX11_writes_0 : decode cX11_writes 0 = .ok (.aload_n 0, 1) := by decide +kernel
theorem dX11_writes_1 : decode cX11_writes 1 = .ok (.getfield 20, 3) := by decide +kernel
theorem dX11_writes_4 : decode cX11_writes 4 = .ok (.aload_n 0, 1) := by decide +kernel
theorem dX11_writes_5 : decode cX11_writes 5 = .ok (.getfield 127, 3) := by decide +kernel
theorem dX11_writes_8 : decode cX11_writes 8 = .ok (.iload_n 1, 1) := by decide +kernel
theorem dX11_writes_9 : decode cX11_writes 9 = .ok (.iastore, 1) := by decide +kernel
theorem dX11_writes_10 : decode cX11_writes 10 = .ok (.aload_n 0, 1) := by decide +kernel
theorem dX11_writes_11 : decode cX11_writes 11 = .ok (.aload_n 0, 1) := by decide +kernel
theorem dX11_writes_12 : decode cX11_writes 12 = .ok (.getfield 127, 3) := by decide +kernel
theorem dX11_writes_15 : decode cX11_writes 15 = .ok (.iconst 1, 1) := by decide +kernel
theorem dX11_writes_16 : decode cX11_writes 16 = .ok (.iadd, 1) := by decide +kernel
theorem dX11_writes_17 : decode cX11_writes 17 = .ok (.putfield 127, 3) := by decide +kernel
theorem dX11_writes_20 : decode cX11_writes 20 = .ok (.return_, 1) := by decide +kernel
theorem dX11_exchanges_0 : decode cX11_exchanges 0 = .ok (.aload_n 0, 1) := by decide +kernel
theorem dX11_exchanges_1 : decode cX11_exchanges 1 = .ok (.getfield 20, 3) := by decide +kernel
theorem dX11_exchanges_4 : decode cX11_exchanges 4 = .ok (.iload_n 1, 1) := by decide +kernel
theorem dX11_exchanges_5 : decode cX11_exchanges 5 = .ok (.iaload, 1) := by decide +kernel
theorem dX11_exchanges_6 : decode cX11_exchanges 6 = .ok (.istore_n 2, 1) := by decide +kernel
theorem dX11_exchanges_7 : decode cX11_exchanges 7 = .ok (.aload_n 0, 1) := by decide +kernel
theorem dX11_exchanges_8 : decode cX11_exchanges 8 = .ok (.getfield 20, 3) := by decide +kernel
theorem dX11_exchanges_11 : decode cX11_exchanges 11 = .ok (.iload_n 1, 1) := by decide +kernel
theorem dX11_exchanges_12 : decode cX11_exchanges 12 = .ok (.iconst 1, 1) := by decide +kernel
theorem dX11_exchanges_13 : decode cX11_exchanges 13 = .ok (.iadd, 1) := by decide +kernel
theorem dX11_exchanges_14 : decode cX11_exchanges 14 = .ok (.iaload, 1) := by decide +kernel
theorem dX11_exchanges_15 : decode cX11_exchanges 15 = .ok (.istore_n 3, 1) := by decide +kernel
theorem dX11_exchanges_16 : decode cX11_exchanges 16 = .ok (.iconst 0, 1) := by decide +kernel
theorem dX11_exchanges_17 : decode cX11_exchanges 17 = .ok (.istore 4, 2) := by decide +kernel
theorem dX11_exchanges_19 : decode cX11_exchanges 19 = .ok (.iload_n 2, 1) := by decide +kernel
theorem dX11_exchanges_20 : decode cX11_exchanges 20 = .ok (.iconst 1, 1) := by decide +kernel
theorem dX11_exchanges_21 : decode cX11_exchanges 21 = .ok (.iadd, 1) := by decide +kernel
theorem dX11_exchanges_22 : decode cX11_exchanges 22 = .ok (.istore 5, 2) := by decide +kernel
theorem dX11_exchanges_24 : decode cX11_exchanges 24 = .ok (.iload 5, 2) := by decide +kernel
theorem dX11_exchanges_26 : decode cX11_exchanges 26 = .ok (.aload_n 0, 1) := by decide +kernel
theorem dX11_exchanges_27 : decode cX11_exchanges 27 = .ok (.invokevirtual 88, 3) := by decide +kernel
theorem dX11_exchanges_30 : decode cX11_exchanges 30 = .ok (.if_icmp .ge 22, 3) := by decide +kernel
theorem dX11_exchanges_33 : decode cX11_exchanges 33 = .ok (.iload 4, 2) := by decide +kernel
theorem dX11_exchanges_35 : decode cX11_exchanges 35 = .ok (.aload_n 0, 1) := by decide +kernel
theorem dX11_exchanges_36 : decode cX11_exchanges 36 = .ok (.iload_n 2, 1) := by decide +kernel
theorem dX11_exchanges_37 : decode cX11_exchanges 37 = .ok (.iload_n 3, 1) := by decide +kernel
theorem dX11_exchanges_38 : decode cX11_exchanges 38 = .ok (.iload 5, 2) := by decide +kernel
theorem dX11_exchanges_40 : decode cX11_exchanges 40 = .ok (.invokevirtual 130, 3) := by decide +kernel
theorem dX11_exchanges_43 : decode cX11_exchanges 43 = .ok (.iadd, 1) := by decide +kernel
theorem dX11_exchanges_44 : decode cX11_exchanges 44 = .ok (.istore 4, 2) := by decide +kernel
theorem dX11_exchanges_46 : decode cX11_exchanges 46 = .ok (.iinc 5 1, 3) := by decide +kernel
theorem dX11_exchanges_49 : decode cX11_exchanges 49 = .ok (.goto (-25), 3) := by decide +kernel
theorem dX11_exchanges_52 : decode cX11_exchanges 52 = .ok (.aload_n 0, 1) := by decide +kernel
theorem dX11_exchanges_53 : decode cX11_exchanges 53 = .ok (.getfield 127, 3) := by decide +kernel
theorem dX11_exchanges_56 : decode cX11_exchanges 56 = .ok (.iconst 1, 1) := by decide +kernel
theorem dX11_exchanges_57 : decode cX11_exchanges 57 = .ok (.isub, 1) := by decide +kernel
theorem dX11_exchanges_58 : decode cX11_exchanges 58 = .ok (.istore 5, 2) := by decide +kernel
theorem dX11_exchanges_60 : decode cX11_exchanges 60 = .ok (.iload 5, 2) := by decide +kernel
theorem dX11_exchanges_62 : decode cX11_exchanges 62 = .ok (.iload_n 1, 1) := by decide +kernel
theorem dX11_exchanges_63 : decode cX11_exchanges 63 = .ok (.iconst 1, 1) := by decide +kernel
theorem dX11_exchanges_64 : decode cX11_exchanges 64 = .ok (.iadd, 1) := by decide +kernel
theorem dX11_exchanges_65 : decode cX11_exchanges 65 = .ok (.if_icmp .le 26, 3) := by decide +kernel
theorem dX11_exchanges_68 : decode cX11_exchanges 68 = .ok (.aload_n 0, 1) := by decide +kernel
theorem dX11_exchanges_69 : decode cX11_exchanges 69 = .ok (.getfield 20, 3) := by decide +kernel
theorem dX11_exchanges_72 : decode cX11_exchanges 72 = .ok (.iload 5, 2) := by decide +kernel
theorem dX11_exchanges_74 : decode cX11_exchanges 74 = .ok (.iload 4, 2) := by decide +kernel
theorem dX11_exchanges_76 : decode cX11_exchanges 76 = .ok (.iadd, 1) := by decide +kernel
theorem dX11_exchanges_77 : decode cX11_exchanges 77 = .ok (.aload_n 0, 1) := by decide +kernel
theorem dX11_exchanges_78 : decode cX11_exchanges 78 = .ok (.getfield 20, 3) := by decide +kernel
theorem dX11_exchanges_81 : decode cX11_exchanges 81 = .ok (.iload 5, 2) := by decide +kernel
theorem dX11_exchanges_83 : decode cX11_exchanges 83 = .ok (.iaload, 1) := by decide +kernel
theorem dX11_exchanges_84 : decode cX11_exchanges 84 = .ok (.iastore, 1) := by decide +kernel
theorem dX11_exchanges_85 : decode cX11_exchanges 85 = .ok (.iinc 5 (-1), 3) := by decide +kernel
theorem dX11_exchanges_88 : decode cX11_exchanges 88 = .ok (.goto (-28), 3) := by decide +kernel
theorem dX11_exchanges_91 : decode cX11_exchanges 91 = .ok (.aload_n 0, 1) := by decide +kernel
theorem dX11_exchanges_92 : decode cX11_exchanges 92 = .ok (.aload_n 0, 1) := by decide +kernel
theorem dX11_exchanges_93 : decode cX11_exchanges 93 = .ok (.getfield 127, 3) := by decide +kernel
theorem dX11_exchanges_96 : decode cX11_exchanges 96 = .ok (.iload 4, 2) := by decide +kernel
theorem dX11_exchanges_98 : decode cX11_exchanges 98 = .ok (.iadd, 1) := by decide +kernel
theorem dX11_exchanges_99 : decode cX11_exchanges 99 = .ok (.putfield 127, 3) := by decide +kernel
theorem dX11_exchanges_102 : decode cX11_exchanges 102 = .ok (.aload_n 0, 1) := by decide +kernel
theorem dX11_exchanges_103 : decode cX11_exchanges 103 = .ok (.getfield 20, 3) := by decide +kernel
theorem dX11_exchanges_106 : decode cX11_exchanges 106 = .ok (.iload_n 1, 1) := by decide +kernel
theorem dX11_exchanges_107 : decode cX11_exchanges 107 = .ok (.iload_n 3, 1) := by decide +kernel
theorem dX11_exchanges_108 : decode cX11_exchanges 108 = .ok (.iastore, 1) := by decide +kernel
theorem dX11_exchanges_109 : decode cX11_exchanges 109 = .ok (.aload_n 0, 1) := by decide +kernel
theorem dX11_exchanges_110 : decode cX11_exchanges 110 = .ok (.getfield 20, 3) := by decide +kernel
theorem dX11_exchanges_113 : decode cX11_exchanges 113 = .ok (.iload_n 1, 1) := by decide +kernel
theorem dX11_exchanges_114 : decode cX11_exchanges 114 = .ok (.iconst 1, 1) := by decide +kernel
theorem dX11_exchanges_115 : decode cX11_exchanges 115 = .ok (.iadd, 1) := by decide +kernel
theorem dX11_exchanges_116 : decode cX11_exchanges 116 = .ok (.iload_n 2, 1) := by decide +kernel
theorem dX11_exchanges_117 : decode cX11_exchanges 117 = .ok (.iastore, 1) := by decide +kernel
theorem dX11_exchanges_118 : decode cX11_exchanges 118 = .ok (.iload_n 1, 1) := by decide +kernel
theorem dX11_exchanges_119 : decode cX11_exchanges 119 = .ok (.iconst 2, 1) := by decide +kernel
theorem dX11_exchanges_120 : decode cX11_exchanges 120 = .ok (.iadd, 1) := by decide +kernel
theorem dX11_exchanges_121 : decode cX11_exchanges 121 = .ok (.istore 5, 2) := by decide +kernel
theorem dX11_exchanges_123 : decode cX11_exchanges 123 = .ok (.iload_n 2, 1) := by decide +kernel
theorem dX11_exchanges_124 : decode cX11_exchanges 124 = .ok (.iconst 1, 1) := by decide +kernel
theorem dX11_exchanges_125 : decode cX11_exchanges 125 = .ok (.iadd, 1) := by decide +kernel
theorem dX11_exchanges_126 : decode cX11_exchanges 126 = .ok (.istore 6, 2) := by decide +kernel
theorem dX11_exchanges_128 : decode cX11_exchanges 128 = .ok (.iload 6, 2) := by decide +kernel
theorem dX11_exchanges_130 : decode cX11_exchanges 130 = .ok (.aload_n 0, 1) := by decide +kernel
theorem dX11_exchanges_131 : decode cX11_exchanges 131 = .ok (.invokevirtual 88, 3) := by decide +kernel
theorem dX11_exchanges_134 : decode cX11_exchanges 134 = .ok (.if_icmp .ge 45, 3) := by decide +kernel
theorem dX11_exchanges_137 : decode cX11_exchanges 137 = .ok (.aload_n 0, 1) := by decide +kernel
theorem dX11_exchanges_138 : decode cX11_exchanges 138 = .ok (.iload_n 2, 1) := by decide +kernel
theorem dX11_exchanges_139 : decode cX11_exchanges 139 = .ok (.iload_n 3, 1) := by decide +kernel
theorem dX11_exchanges_140 : decode cX11_exchanges 140 = .ok (.iload 6, 2) := by decide +kernel
theorem dX11_exchanges_142 : decode cX11_exchanges 142 = .ok (.invokevirtual 130, 3) := by decide +kernel
theorem dX11_exchanges_145 : decode cX11_exchanges 145 = .ok (.istore 7, 2) := by decide +kernel
theorem dX11_exchanges_147 : decode cX11_exchanges 147 = .ok (.iload 7, 2) := by decide +kernel
theorem dX11_exchanges_149 : decode cX11_exchanges 149 = .ok (.ifCond .le 24, 3) := by decide +kernel
theorem dX11_exchanges_152 : decode cX11_exchanges 152 = .ok (.aload_n 0, 1) := by decide +kernel
theorem dX11_exchanges_153 : decode cX11_exchanges 153 = .ok (.getfield 20, 3) := by decide +kernel
theorem dX11_exchanges_156 : decode cX11_exchanges 156 = .ok (.iload 5, 2) := by decide +kernel
theorem dX11_exchanges_158 : decode cX11_exchanges 158 = .ok (.iload 6, 2) := by decide +kernel
theorem dX11_exchanges_160 : decode cX11_exchanges 160 = .ok (.iastore, 1) := by decide +kernel
theorem dX11_exchanges_161 : decode cX11_exchanges 161 = .ok (.iload 5, 2) := by decide +kernel
theorem dX11_exchanges_163 : decode cX11_exchanges 163 = .ok (.iconst 1, 1) := by decide +kernel
theorem dX11_exchanges_164 : decode cX11_exchanges 164 = .ok (.iadd, 1) := by decide +kernel
theorem dX11_exchanges_165 : decode cX11_exchanges 165 = .ok (.istore 5, 2) := by decide +kernel
theorem dX11_exchanges_167 : decode cX11_exchanges 167 = .ok (.iinc 7 (-1), 3) := by decide +kernel
theorem dX11_exchanges_170 : decode cX11_exchanges 170 = .ok (.goto (-23), 3) := by decide +kernel
theorem dX11_exchanges_173 : decode cX11_exchanges 173 = .ok (.iinc 6 1, 3) := by decide +kernel
theorem dX11_exchanges_176 : decode cX11_exchanges 176 = .ok (.goto (-48), 3) := by decide +kernel
theorem dX11_exchanges_179 : decode cX11_exchanges 179 = .ok (.aload_n 0, 1) := by decide +kernel
theorem dX11_exchanges_180 : decode cX11_exchanges 180 = .ok (.aload_n 0, 1) := by decide +kernel
theorem dX11_exchanges_181 : decode cX11_exchanges 181 = .ok (.getfield 134, 3) := by decide +kernel
theorem dX11_exchanges_184 : decode cX11_exchanges 184 = .ok (.iconst 1, 1) := by decide +kernel
theorem dX11_exchanges_185 : decode cX11_exchanges 185 = .ok (.iadd, 1) := by decide +kernel
theorem dX11_exchanges_186 : decode cX11_exchanges 186 = .ok (.putfield 134, 3) := by decide +kernel
theorem dX11_exchanges_189 : decode cX11_exchanges 189 = .ok (.return_, 1) := by decide +kernel
theorem dX11_collects_0 : decode cX11_collects 0 = .ok (.iconst 0, 1) := by decide +kernel
theorem dX11_collects_1 : decode cX11_collects 1 = .ok (.istore_n 1, 1) := by decide +kernel
theorem dX11_collects_2 : decode cX11_collects 2 = .ok (.iload_n 1, 1) := by decide +kernel
theorem dX11_collects_3 : decode cX11_collects 3 = .ok (.iconst 1, 1) := by decide +kernel
theorem dX11_collects_4 : decode cX11_collects 4 = .ok (.iadd, 1) := by decide +kernel
theorem dX11_collects_5 : decode cX11_collects 5 = .ok (.aload_n 0, 1) := by decide +kernel
theorem dX11_collects_6 : decode cX11_collects 6 = .ok (.getfield 127, 3) := by decide +kernel
theorem dX11_collects_9 : decode cX11_collects 9 = .ok (.if_icmp .ge 59, 3) := by decide +kernel
theorem dX11_collects_12 : decode cX11_collects 12 = .ok (.aload_n 0, 1) := by decide +kernel
theorem dX11_collects_13 : decode cX11_collects 13 = .ok (.getfield 20, 3) := by decide +kernel
theorem dX11_collects_16 : decode cX11_collects 16 = .ok (.iload_n 1, 1) := by decide +kernel
theorem dX11_collects_17 : decode cX11_collects 17 = .ok (.iaload, 1) := by decide +kernel
theorem dX11_collects_18 : decode cX11_collects 18 = .ok (.aload_n 0, 1) := by decide +kernel
theorem dX11_collects_19 : decode cX11_collects 19 = .ok (.getfield 20, 3) := by decide +kernel
theorem dX11_collects_22 : decode cX11_collects 22 = .ok (.iload_n 1, 1) := by decide +kernel
theorem dX11_collects_23 : decode cX11_collects 23 = .ok (.iconst 1, 1) := by decide +kernel
theorem dX11_collects_24 : decode cX11_collects 24 = .ok (.iadd, 1) := by decide +kernel
theorem dX11_collects_25 : decode cX11_collects 25 = .ok (.iaload, 1) := by decide +kernel
theorem dX11_collects_26 : decode cX11_collects 26 = .ok (.if_icmp .gt 10, 3) := by decide +kernel
theorem dX11_collects_29 : decode cX11_collects 29 = .ok (.iload_n 1, 1) := by decide +kernel
theorem dX11_collects_30 : decode cX11_collects 30 = .ok (.iconst 1, 1) := by decide +kernel
theorem dX11_collects_31 : decode cX11_collects 31 = .ok (.iadd, 1) := by decide +kernel
theorem dX11_collects_32 : decode cX11_collects 32 = .ok (.istore_n 1, 1) := by decide +kernel
theorem dX11_collects_33 : decode cX11_collects 33 = .ok (.goto (-31), 3) := by decide +kernel
theorem dX11_collects_36 : decode cX11_collects 36 = .ok (.aload_n 0, 1) := by decide +kernel
theorem dX11_collects_37 : decode cX11_collects 37 = .ok (.getfield 134, 3) := by decide +kernel
theorem dX11_collects_40 : decode cX11_collects 40 = .ok (.sipush 1000, 3) := by decide +kernel
theorem dX11_collects_43 : decode cX11_collects 43 = .ok (.if_icmp .ne 5, 3) := by decide +kernel
theorem dX11_collects_46 : decode cX11_collects 46 = .ok (.iconst 0, 1) := by decide +kernel
theorem dX11_collects_47 : decode cX11_collects 47 = .ok (.ireturn, 1) := by decide +kernel
theorem dX11_collects_48 : decode cX11_collects 48 = .ok (.aload_n 0, 1) := by decide +kernel
theorem dX11_collects_49 : decode cX11_collects 49 = .ok (.iload_n 1, 1) := by decide +kernel
theorem dX11_collects_50 : decode cX11_collects 50 = .ok (.invokevirtual 137, 3) := by decide +kernel
theorem dX11_collects_53 : decode cX11_collects 53 = .ok (.iload_n 1, 1) := by decide +kernel
theorem dX11_collects_54 : decode cX11_collects 54 = .ok (.ifCond .le 9, 3) := by decide +kernel
theorem dX11_collects_57 : decode cX11_collects 57 = .ok (.iload_n 1, 1) := by decide +kernel
theorem dX11_collects_58 : decode cX11_collects 58 = .ok (.iconst 1, 1) := by decide +kernel
theorem dX11_collects_59 : decode cX11_collects 59 = .ok (.isub, 1) := by decide +kernel
theorem dX11_collects_60 : decode cX11_collects 60 = .ok (.goto 4, 3) := by decide +kernel
theorem dX11_collects_63 : decode cX11_collects 63 = .ok (.iconst 0, 1) := by decide +kernel
theorem dX11_collects_64 : decode cX11_collects 64 = .ok (.istore_n 1, 1) := by decide +kernel
theorem dX11_collects_65 : decode cX11_collects 65 = .ok (.goto (-63), 3) := by decide +kernel
theorem dX11_collects_68 : decode cX11_collects 68 = .ok (.iconst 1, 1) := by decide +kernel
theorem dX11_collects_69 : decode cX11_collects 69 = .ok (.ireturn, 1) := by decide +kernel
theorem dX11_letters_0 : decode cX11_letters 0 = .ok (.iconst 0, 1) := by decide +kernel
theorem dX11_letters_1 : decode cX11_letters 1 = .ok (.istore_n 2, 1) := by decide +kernel
theorem dX11_letters_2 : decode cX11_letters 2 = .ok (.iconst 0, 1) := by decide +kernel
theorem dX11_letters_3 : decode cX11_letters 3 = .ok (.istore_n 3, 1) := by decide +kernel
theorem dX11_letters_4 : decode cX11_letters 4 = .ok (.iload_n 3, 1) := by decide +kernel
theorem dX11_letters_5 : decode cX11_letters 5 = .ok (.aload_n 0, 1) := by decide +kernel
theorem dX11_letters_6 : decode cX11_letters 6 = .ok (.getfield 127, 3) := by decide +kernel
theorem dX11_letters_9 : decode cX11_letters 9 = .ok (.if_icmp .ge 23, 3) := by decide +kernel
theorem dX11_letters_12 : decode cX11_letters 12 = .ok (.aload_n 0, 1) := by decide +kernel
theorem dX11_letters_13 : decode cX11_letters 13 = .ok (.getfield 20, 3) := by decide +kernel
theorem dX11_letters_16 : decode cX11_letters 16 = .ok (.iload_n 3, 1) := by decide +kernel
theorem dX11_letters_17 : decode cX11_letters 17 = .ok (.iaload, 1) := by decide +kernel
theorem dX11_letters_18 : decode cX11_letters 18 = .ok (.iload_n 1, 1) := by decide +kernel
theorem dX11_letters_19 : decode cX11_letters 19 = .ok (.if_icmp .ne 7, 3) := by decide +kernel
theorem dX11_letters_22 : decode cX11_letters 22 = .ok (.iload_n 2, 1) := by decide +kernel
theorem dX11_letters_23 : decode cX11_letters 23 = .ok (.iconst 1, 1) := by decide +kernel
theorem dX11_letters_24 : decode cX11_letters 24 = .ok (.iadd, 1) := by decide +kernel
theorem dX11_letters_25 : decode cX11_letters 25 = .ok (.istore_n 2, 1) := by decide +kernel
theorem dX11_letters_26 : decode cX11_letters 26 = .ok (.iinc 3 1, 3) := by decide +kernel
theorem dX11_letters_29 : decode cX11_letters 29 = .ok (.goto (-25), 3) := by decide +kernel
theorem dX11_letters_32 : decode cX11_letters 32 = .ok (.iload_n 2, 1) := by decide +kernel
theorem dX11_letters_33 : decode cX11_letters 33 = .ok (.ireturn, 1) := by decide +kernel
theorem dX11_isAlikeBy_0 : decode cX11_isAlikeBy 0 = .ok (.iconst 0, 1) := by decide +kernel
theorem dX11_isAlikeBy_1 : decode cX11_isAlikeBy 1 = .ok (.istore 4, 2) := by decide +kernel
theorem dX11_isAlikeBy_3 : decode cX11_isAlikeBy 3 = .ok (.iload 4, 2) := by decide +kernel
theorem dX11_isAlikeBy_5 : decode cX11_isAlikeBy 5 = .ok (.iconst 2, 1) := by decide +kernel
theorem dX11_isAlikeBy_6 : decode cX11_isAlikeBy 6 = .ok (.if_icmp .ge 108, 3) := by decide +kernel
theorem dX11_isAlikeBy_9 : decode cX11_isAlikeBy 9 = .ok (.aload_n 0, 1) := by decide +kernel
theorem dX11_isAlikeBy_10 : decode cX11_isAlikeBy 10 = .ok (.iconst 0, 1) := by decide +kernel
theorem dX11_isAlikeBy_11 : decode cX11_isAlikeBy 11 = .ok (.putfield 127, 3) := by decide +kernel
theorem dX11_isAlikeBy_14 : decode cX11_isAlikeBy 14 = .ok (.aload_n 0, 1) := by decide +kernel
theorem dX11_isAlikeBy_15 : decode cX11_isAlikeBy 15 = .ok (.iconst 0, 1) := by decide +kernel
theorem dX11_isAlikeBy_16 : decode cX11_isAlikeBy 16 = .ok (.putfield 134, 3) := by decide +kernel
theorem dX11_isAlikeBy_19 : decode cX11_isAlikeBy 19 = .ok (.aload_n 0, 1) := by decide +kernel
theorem dX11_isAlikeBy_20 : decode cX11_isAlikeBy 20 = .ok (.iload_n 1, 1) := by decide +kernel
theorem dX11_isAlikeBy_21 : decode cX11_isAlikeBy 21 = .ok (.invokevirtual 140, 3) := by decide +kernel
theorem dX11_isAlikeBy_24 : decode cX11_isAlikeBy 24 = .ok (.aload_n 0, 1) := by decide +kernel
theorem dX11_isAlikeBy_25 : decode cX11_isAlikeBy 25 = .ok (.iload_n 2, 1) := by decide +kernel
theorem dX11_isAlikeBy_26 : decode cX11_isAlikeBy 26 = .ok (.invokevirtual 140, 3) := by decide +kernel
theorem dX11_isAlikeBy_29 : decode cX11_isAlikeBy 29 = .ok (.aload_n 0, 1) := by decide +kernel
theorem dX11_isAlikeBy_30 : decode cX11_isAlikeBy 30 = .ok (.iload_n 3, 1) := by decide +kernel
theorem dX11_isAlikeBy_31 : decode cX11_isAlikeBy 31 = .ok (.invokevirtual 140, 3) := by decide +kernel
theorem dX11_isAlikeBy_34 : decode cX11_isAlikeBy 34 = .ok (.aload_n 0, 1) := by decide +kernel
theorem dX11_isAlikeBy_35 : decode cX11_isAlikeBy 35 = .ok (.iload 4, 2) := by decide +kernel
theorem dX11_isAlikeBy_37 : decode cX11_isAlikeBy 37 = .ok (.invokevirtual 137, 3) := by decide +kernel
theorem dX11_isAlikeBy_40 : decode cX11_isAlikeBy 40 = .ok (.aload_n 0, 1) := by decide +kernel
theorem dX11_isAlikeBy_41 : decode cX11_isAlikeBy 41 = .ok (.invokevirtual 143, 3) := by decide +kernel
theorem dX11_isAlikeBy_44 : decode cX11_isAlikeBy 44 = .ok (.istore 5, 2) := by decide +kernel
theorem dX11_isAlikeBy_46 : decode cX11_isAlikeBy 46 = .ok (.iconst 0, 1) := by decide +kernel
theorem dX11_isAlikeBy_47 : decode cX11_isAlikeBy 47 = .ok (.istore 6, 2) := by decide +kernel
theorem dX11_isAlikeBy_49 : decode cX11_isAlikeBy 49 = .ok (.iload 6, 2) := by decide +kernel
theorem dX11_isAlikeBy_51 : decode cX11_isAlikeBy 51 = .ok (.aload_n 0, 1) := by decide +kernel
theorem dX11_isAlikeBy_52 : decode cX11_isAlikeBy 52 = .ok (.invokevirtual 88, 3) := by decide +kernel
theorem dX11_isAlikeBy_55 : decode cX11_isAlikeBy 55 = .ok (.if_icmp .ge 53, 3) := by decide +kernel
theorem dX11_isAlikeBy_58 : decode cX11_isAlikeBy 58 = .ok (.iload 5, 2) := by decide +kernel
theorem dX11_isAlikeBy_60 : decode cX11_isAlikeBy 60 = .ok (.ifCond .eq 48, 3) := by decide +kernel
theorem dX11_isAlikeBy_63 : decode cX11_isAlikeBy 63 = .ok (.iload 4, 2) := by decide +kernel
theorem dX11_isAlikeBy_65 : decode cX11_isAlikeBy 65 = .ok (.ifCond .ne 19, 3) := by decide +kernel
theorem dX11_isAlikeBy_68 : decode cX11_isAlikeBy 68 = .ok (.aload_n 0, 1) := by decide +kernel
theorem dX11_isAlikeBy_69 : decode cX11_isAlikeBy 69 = .ok (.getfield 23, 3) := by decide +kernel
theorem dX11_isAlikeBy_72 : decode cX11_isAlikeBy 72 = .ok (.iload 6, 2) := by decide +kernel
theorem dX11_isAlikeBy_74 : decode cX11_isAlikeBy 74 = .ok (.aload_n 0, 1) := by decide +kernel
theorem dX11_isAlikeBy_75 : decode cX11_isAlikeBy 75 = .ok (.iload 6, 2) := by decide +kernel
theorem dX11_isAlikeBy_77 : decode cX11_isAlikeBy 77 = .ok (.invokevirtual 147, 3) := by decide +kernel
theorem dX11_isAlikeBy_80 : decode cX11_isAlikeBy 80 = .ok (.iastore, 1) := by decide +kernel
theorem dX11_isAlikeBy_81 : decode cX11_isAlikeBy 81 = .ok (.goto 21, 3) := by decide +kernel
theorem dX11_isAlikeBy_84 : decode cX11_isAlikeBy 84 = .ok (.aload_n 0, 1) := by decide +kernel
theorem dX11_isAlikeBy_85 : decode cX11_isAlikeBy 85 = .ok (.getfield 23, 3) := by decide +kernel
theorem dX11_isAlikeBy_88 : decode cX11_isAlikeBy 88 = .ok (.iload 6, 2) := by decide +kernel
theorem dX11_isAlikeBy_90 : decode cX11_isAlikeBy 90 = .ok (.iaload, 1) := by decide +kernel
theorem dX11_isAlikeBy_91 : decode cX11_isAlikeBy 91 = .ok (.aload_n 0, 1) := by decide +kernel
theorem dX11_isAlikeBy_92 : decode cX11_isAlikeBy 92 = .ok (.iload 6, 2) := by decide +kernel
theorem dX11_isAlikeBy_94 : decode cX11_isAlikeBy 94 = .ok (.invokevirtual 147, 3) := by decide +kernel
theorem dX11_isAlikeBy_97 : decode cX11_isAlikeBy 97 = .ok (.if_icmp .eq 5, 3) := by decide +kernel
theorem dX11_isAlikeBy_100 : decode cX11_isAlikeBy 100 = .ok (.iconst 0, 1) := by decide +kernel
theorem dX11_isAlikeBy_101 : decode cX11_isAlikeBy 101 = .ok (.ireturn, 1) := by decide +kernel
theorem dX11_isAlikeBy_102 : decode cX11_isAlikeBy 102 = .ok (.iinc 6 1, 3) := by decide +kernel
theorem dX11_isAlikeBy_105 : decode cX11_isAlikeBy 105 = .ok (.goto (-56), 3) := by decide +kernel
theorem dX11_isAlikeBy_108 : decode cX11_isAlikeBy 108 = .ok (.iinc 4 1, 3) := by decide +kernel
theorem dX11_isAlikeBy_111 : decode cX11_isAlikeBy 111 = .ok (.goto (-108), 3) := by decide +kernel
theorem dX11_isAlikeBy_114 : decode cX11_isAlikeBy 114 = .ok (.iconst 1, 1) := by decide +kernel
theorem dX11_isAlikeBy_115 : decode cX11_isAlikeBy 115 = .ok (.ireturn, 1) := by decide +kernel
theorem dX11_lays_0 : decode cX11_lays 0 = .ok (.aload_n 0, 1) := by decide +kernel
theorem dX11_lays_1 : decode cX11_lays 1 = .ok (.getfield 84, 3) := by decide +kernel
theorem dX11_lays_4 : decode cX11_lays 4 = .ok (.ifCond .eq 4, 3) := by decide +kernel
theorem dX11_lays_7 : decode cX11_lays 7 = .ok (.return_, 1) := by decide +kernel
theorem dX11_lays_8 : decode cX11_lays 8 = .ok (.aload_n 0, 1) := by decide +kernel
theorem dX11_lays_9 : decode cX11_lays 9 = .ok (.iconst 1, 1) := by decide +kernel
theorem dX11_lays_10 : decode cX11_lays 10 = .ok (.putfield 84, 3) := by decide +kernel
theorem dX11_lays_13 : decode cX11_lays 13 = .ok (.aload_n 0, 1) := by decide +kernel
theorem dX11_lays_14 : decode cX11_lays 14 = .ok (.iconst 1, 1) := by decide +kernel
theorem dX11_lays_15 : decode cX11_lays 15 = .ok (.putfield 150, 3) := by decide +kernel
theorem dX11_lays_18 : decode cX11_lays 18 = .ok (.iconst 0, 1) := by decide +kernel
theorem dX11_lays_19 : decode cX11_lays 19 = .ok (.istore_n 1, 1) := by decide +kernel
theorem dX11_lays_20 : decode cX11_lays 20 = .ok (.iload_n 1, 1) := by decide +kernel
theorem dX11_lays_21 : decode cX11_lays 21 = .ok (.aload_n 0, 1) := by decide +kernel
theorem dX11_lays_22 : decode cX11_lays 22 = .ok (.invokevirtual 88, 3) := by decide +kernel
theorem dX11_lays_25 : decode cX11_lays 25 = .ok (.if_icmp .ge 61, 3) := by decide +kernel
theorem dX11_lays_28 : decode cX11_lays 28 = .ok (.iconst 0, 1) := by decide +kernel
theorem dX11_lays_29 : decode cX11_lays 29 = .ok (.istore_n 2, 1) := by decide +kernel
theorem dX11_lays_30 : decode cX11_lays 30 = .ok (.iload_n 2, 1) := by decide +kernel
theorem dX11_lays_31 : decode cX11_lays 31 = .ok (.iload_n 1, 1) := by decide +kernel
theorem dX11_lays_32 : decode cX11_lays 32 = .ok (.if_icmp .ge 48, 3) := by decide +kernel
theorem dX11_lays_35 : decode cX11_lays 35 = .ok (.iconst 0, 1) := by decide +kernel
theorem dX11_lays_36 : decode cX11_lays 36 = .ok (.istore_n 3, 1) := by decide +kernel
theorem dX11_lays_37 : decode cX11_lays 37 = .ok (.iload_n 3, 1) := by decide +kernel
theorem dX11_lays_38 : decode cX11_lays 38 = .ok (.iload_n 2, 1) := by decide +kernel
theorem dX11_lays_39 : decode cX11_lays 39 = .ok (.if_icmp .ge 35, 3) := by decide +kernel
theorem dX11_lays_42 : decode cX11_lays 42 = .ok (.aload_n 0, 1) := by decide +kernel
theorem dX11_lays_43 : decode cX11_lays 43 = .ok (.aload_n 0, 1) := by decide +kernel
theorem dX11_lays_44 : decode cX11_lays 44 = .ok (.getfield 150, 3) := by decide +kernel
theorem dX11_lays_47 : decode cX11_lays 47 = .ok (.ifCond .eq 17, 3) := by decide +kernel
theorem dX11_lays_50 : decode cX11_lays 50 = .ok (.aload_n 0, 1) := by decide +kernel
theorem dX11_lays_51 : decode cX11_lays 51 = .ok (.iload_n 1, 1) := by decide +kernel
theorem dX11_lays_52 : decode cX11_lays 52 = .ok (.iload_n 2, 1) := by decide +kernel
theorem dX11_lays_53 : decode cX11_lays 53 = .ok (.iload_n 3, 1) := by decide +kernel
theorem dX11_lays_54 : decode cX11_lays 54 = .ok (.invokevirtual 153, 3) := by decide +kernel
theorem dX11_lays_57 : decode cX11_lays 57 = .ok (.ifCond .eq 7, 3) := by decide +kernel
theorem dX11_lays_60 : decode cX11_lays 60 = .ok (.iconst 1, 1) := by decide +kernel
theorem dX11_lays_61 : decode cX11_lays 61 = .ok (.goto 4, 3) := by decide +kernel
theorem dX11_lays_64 : decode cX11_lays 64 = .ok (.iconst 0, 1) := by decide +kernel
theorem dX11_lays_65 : decode cX11_lays 65 = .ok (.putfield 150, 3) := by decide +kernel
theorem dX11_lays_68 : decode cX11_lays 68 = .ok (.iinc 3 1, 3) := by decide +kernel
theorem dX11_lays_71 : decode cX11_lays 71 = .ok (.goto (-34), 3) := by decide +kernel
theorem dX11_lays_74 : decode cX11_lays 74 = .ok (.iinc 2 1, 3) := by decide +kernel
theorem dX11_lays_77 : decode cX11_lays 77 = .ok (.goto (-47), 3) := by decide +kernel
theorem dX11_lays_80 : decode cX11_lays 80 = .ok (.iinc 1 1, 3) := by decide +kernel
theorem dX11_lays_83 : decode cX11_lays 83 = .ok (.goto (-63), 3) := by decide +kernel
theorem dX11_lays_86 : decode cX11_lays 86 = .ok (.iconst 0, 1) := by decide +kernel
theorem dX11_lays_87 : decode cX11_lays 87 = .ok (.istore_n 1, 1) := by decide +kernel
theorem dX11_lays_88 : decode cX11_lays 88 = .ok (.iload_n 1, 1) := by decide +kernel
theorem dX11_lays_89 : decode cX11_lays 89 = .ok (.bipush 6, 2) := by decide +kernel
theorem dX11_lays_91 : decode cX11_lays 91 = .ok (.if_icmp .ge 16, 3) := by decide +kernel
theorem dX11_lays_94 : decode cX11_lays 94 = .ok (.aload_n 0, 1) := by decide +kernel
theorem dX11_lays_95 : decode cX11_lays 95 = .ok (.getfield 26, 3) := by decide +kernel
theorem dX11_lays_98 : decode cX11_lays 98 = .ok (.iload_n 1, 1) := by decide +kernel
theorem dX11_lays_99 : decode cX11_lays 99 = .ok (.iconst 0, 1) := by decide +kernel
theorem dX11_lays_100 : decode cX11_lays 100 = .ok (.iastore, 1) := by decide +kernel
theorem dX11_lays_101 : decode cX11_lays 101 = .ok (.iinc 1 1, 3) := by decide +kernel
theorem dX11_lays_104 : decode cX11_lays 104 = .ok (.goto (-16), 3) := by decide +kernel
theorem dX11_lays_107 : decode cX11_lays 107 = .ok (.aload_n 0, 1) := by decide +kernel
theorem dX11_lays_108 : decode cX11_lays 108 = .ok (.getfield 150, 3) := by decide +kernel
theorem dX11_lays_111 : decode cX11_lays 111 = .ok (.ifCond .ne 4, 3) := by decide +kernel
theorem dX11_lays_114 : decode cX11_lays 114 = .ok (.return_, 1) := by decide +kernel
theorem dX11_lays_115 : decode cX11_lays 115 = .ok (.iconst 0, 1) := by decide +kernel
theorem dX11_lays_116 : decode cX11_lays 116 = .ok (.istore_n 1, 1) := by decide +kernel
theorem dX11_lays_117 : decode cX11_lays 117 = .ok (.iload_n 1, 1) := by decide +kernel
theorem dX11_lays_118 : decode cX11_lays 118 = .ok (.aload_n 0, 1) := by decide +kernel
theorem dX11_lays_119 : decode cX11_lays 119 = .ok (.invokevirtual 88, 3) := by decide +kernel
theorem dX11_lays_122 : decode cX11_lays 122 = .ok (.if_icmp .ge 14, 3) := by decide +kernel
theorem dX11_lays_125 : decode cX11_lays 125 = .ok (.aload_n 0, 1) := by decide +kernel
theorem dX11_lays_126 : decode cX11_lays 126 = .ok (.iload_n 1, 1) := by decide +kernel
theorem dX11_lays_127 : decode cX11_lays 127 = .ok (.invokevirtual 156, 3) := by decide +kernel
theorem dX11_lays_130 : decode cX11_lays 130 = .ok (.iinc 1 1, 3) := by decide +kernel
theorem dX11_lays_133 : decode cX11_lays 133 = .ok (.goto (-16), 3) := by decide +kernel
theorem dX11_lays_136 : decode cX11_lays 136 = .ok (.return_, 1) := by decide +kernel
theorem dX11_isConsistent_0 : decode cX11_isConsistent 0 = .ok (.aload_n 0, 1) := by decide +kernel
theorem dX11_isConsistent_1 : decode cX11_isConsistent 1 = .ok (.invokevirtual 159, 3) := by decide +kernel
theorem dX11_isConsistent_4 : decode cX11_isConsistent 4 = .ok (.aload_n 0, 1) := by decide +kernel
theorem dX11_isConsistent_5 : decode cX11_isConsistent 5 = .ok (.getfield 150, 3) := by decide +kernel
theorem dX11_isConsistent_8 : decode cX11_isConsistent 8 = .ok (.ireturn, 1) := by decide +kernel
theorem dX11_of_0 : decode cX11_of 0 = .ok (.aload_n 0, 1) := by decide +kernel
theorem dX11_of_1 : decode cX11_of 1 = .ok (.getfield 34, 3) := by decide +kernel
theorem dX11_of_4 : decode cX11_of 4 = .ok (.bipush 6, 2) := by decide +kernel
theorem dX11_of_6 : decode cX11_of 6 = .ok (.iload_n 1, 1) := by decide +kernel
theorem dX11_of_7 : decode cX11_of 7 = .ok (.imul, 1) := by decide +kernel
theorem dX11_of_8 : decode cX11_of 8 = .ok (.iload_n 2, 1) := by decide +kernel
theorem dX11_of_9 : decode cX11_of 9 = .ok (.iadd, 1) := by decide +kernel
theorem dX11_of_10 : decode cX11_of 10 = .ok (.laload, 1) := by decide +kernel
theorem dX11_of_11 : decode cX11_of 11 = .ok (.lreturn, 1) := by decide +kernel
theorem dX11_puts_0 : decode cX11_puts 0 = .ok (.aload_n 0, 1) := by decide +kernel
theorem dX11_puts_1 : decode cX11_puts 1 = .ok (.getfield 34, 3) := by decide +kernel
theorem dX11_puts_4 : decode cX11_puts 4 = .ok (.bipush 6, 2) := by decide +kernel
theorem dX11_puts_6 : decode cX11_puts 6 = .ok (.iload_n 1, 1) := by decide +kernel
theorem dX11_puts_7 : decode cX11_puts 7 = .ok (.imul, 1) := by decide +kernel
theorem dX11_puts_8 : decode cX11_puts 8 = .ok (.iload_n 2, 1) := by decide +kernel
theorem dX11_puts_9 : decode cX11_puts 9 = .ok (.iadd, 1) := by decide +kernel
theorem dX11_puts_10 : decode cX11_puts 10 = .ok (.lload_n 3, 1) := by decide +kernel
theorem dX11_puts_11 : decode cX11_puts 11 = .ok (.lastore, 1) := by decide +kernel
theorem dX11_puts_12 : decode cX11_puts 12 = .ok (.return_, 1) := by decide +kernel
theorem dX11_ones_0 : decode cX11_ones 0 = .ok (.iconst 0, 1) := by decide +kernel
theorem dX11_ones_1 : decode cX11_ones 1 = .ok (.istore_n 2, 1) := by decide +kernel
theorem dX11_ones_2 : decode cX11_ones 2 = .ok (.iload_n 2, 1) := by decide +kernel
theorem dX11_ones_3 : decode cX11_ones 3 = .ok (.bipush 6, 2) := by decide +kernel
theorem dX11_ones_5 : decode cX11_ones 5 = .ok (.if_icmp .ge 16, 3) := by decide +kernel
theorem dX11_ones_8 : decode cX11_ones 8 = .ok (.aload_n 0, 1) := by decide +kernel
theorem dX11_ones_9 : decode cX11_ones 9 = .ok (.iload_n 1, 1) := by decide +kernel
theorem dX11_ones_10 : decode cX11_ones 10 = .ok (.iload_n 2, 1) := by decide +kernel
theorem dX11_ones_11 : decode cX11_ones 11 = .ok (.lconst 0, 1) := by decide +kernel
theorem dX11_ones_12 : decode cX11_ones 12 = .ok (.invokevirtual 162, 3) := by decide +kernel
theorem dX11_ones_15 : decode cX11_ones 15 = .ok (.iinc 2 1, 3) := by decide +kernel
theorem dX11_ones_18 : decode cX11_ones 18 = .ok (.goto (-16), 3) := by decide +kernel
theorem dX11_ones_21 : decode cX11_ones 21 = .ok (.return_, 1) := by decide +kernel
theorem dX11_copies_0 : decode cX11_copies 0 = .ok (.iconst 0, 1) := by decide +kernel
theorem dX11_copies_1 : decode cX11_copies 1 = .ok (.istore_n 3, 1) := by decide +kernel
theorem dX11_copies_2 : decode cX11_copies 2 = .ok (.iload_n 3, 1) := by decide +kernel
theorem dX11_copies_3 : decode cX11_copies 3 = .ok (.bipush 6, 2) := by decide +kernel
theorem dX11_copies_5 : decode cX11_copies 5 = .ok (.if_icmp .ge 21, 3) := by decide +kernel
theorem dX11_copies_8 : decode cX11_copies 8 = .ok (.aload_n 0, 1) := by decide +kernel
theorem dX11_copies_9 : decode cX11_copies 9 = .ok (.iload_n 2, 1) := by decide +kernel
theorem dX11_copies_10 : decode cX11_copies 10 = .ok (.iload_n 3, 1) := by decide +kernel
theorem dX11_copies_11 : decode cX11_copies 11 = .ok (.aload_n 0, 1) := by decide +kernel
theorem dX11_copies_12 : decode cX11_copies 12 = .ok (.iload_n 1, 1) := by decide +kernel
theorem dX11_copies_13 : decode cX11_copies 13 = .ok (.iload_n 3, 1) := by decide +kernel
theorem dX11_copies_14 : decode cX11_copies 14 = .ok (.invokevirtual 166, 3) := by decide +kernel
theorem dX11_copies_17 : decode cX11_copies 17 = .ok (.invokevirtual 162, 3) := by decide +kernel
theorem dX11_copies_20 : decode cX11_copies 20 = .ok (.iinc 3 1, 3) := by decide +kernel
theorem dX11_copies_23 : decode cX11_copies 23 = .ok (.goto (-21), 3) := by decide +kernel
theorem dX11_copies_26 : decode cX11_copies 26 = .ok (.return_, 1) := by decide +kernel
theorem dX11_laysRegister_0 : decode cX11_laysRegister 0 = .ok (.iconst 0, 1) := by decide +kernel
theorem dX11_laysRegister_1 : decode cX11_laysRegister 1 = .ok (.istore_n 3, 1) := by decide +kernel
theorem dX11_laysRegister_2 : decode cX11_laysRegister 2 = .ok (.iload_n 3, 1) := by decide +kernel
theorem dX11_laysRegister_3 : decode cX11_laysRegister 3 = .ok (.bipush 6, 2) := by decide +kernel
theorem dX11_laysRegister_5 : decode cX11_laysRegister 5 = .ok (.if_icmp .ge 22, 3) := by decide +kernel
theorem dX11_laysRegister_8 : decode cX11_laysRegister 8 = .ok (.aload_n 0, 1) := by decide +kernel
theorem dX11_laysRegister_9 : decode cX11_laysRegister 9 = .ok (.iload_n 1, 1) := by decide +kernel
theorem dX11_laysRegister_10 : decode cX11_laysRegister 10 = .ok (.iload_n 3, 1) := by decide +kernel
theorem dX11_laysRegister_11 : decode cX11_laysRegister 11 = .ok (.aload_n 0, 1) := by decide +kernel
theorem dX11_laysRegister_12 : decode cX11_laysRegister 12 = .ok (.iload_n 2, 1) := by decide +kernel
theorem dX11_laysRegister_13 : decode cX11_laysRegister 13 = .ok (.iload_n 3, 1) := by decide +kernel
theorem dX11_laysRegister_14 : decode cX11_laysRegister 14 = .ok (.invokevirtual 170, 3) := by decide +kernel
theorem dX11_laysRegister_17 : decode cX11_laysRegister 17 = .ok (.i2l, 1) := by decide +kernel
theorem dX11_laysRegister_18 : decode cX11_laysRegister 18 = .ok (.invokevirtual 162, 3) := by decide +kernel
theorem dX11_laysRegister_21 : decode cX11_laysRegister 21 = .ok (.iinc 3 1, 3) := by decide +kernel
theorem dX11_laysRegister_24 : decode cX11_laysRegister 24 = .ok (.goto (-22), 3) := by decide +kernel
theorem dX11_laysRegister_27 : decode cX11_laysRegister 27 = .ok (.return_, 1) := by decide +kernel
theorem dX11_two_0 : decode cX11_two 0 = .ok (.lload_n 1, 1) := by decide +kernel
theorem dX11_two_1 : decode cX11_two 1 = .ok (.lload_n 1, 1) := by decide +kernel
theorem dX11_two_2 : decode cX11_two 2 = .ok (.lconst 1, 1) := by decide +kernel
theorem dX11_two_3 : decode cX11_two 3 = .ok (.lsub, 1) := by decide +kernel
theorem dX11_two_4 : decode cX11_two 4 = .ok (.lmul, 1) := by decide +kernel
theorem dX11_two_5 : decode cX11_two 5 = .ok (.ldc2_w 174, 3) := by decide +kernel
theorem dX11_two_8 : decode cX11_two 8 = .ok (.ldiv, 1) := by decide +kernel
theorem dX11_two_9 : decode cX11_two 9 = .ok (.lreturn, 1) := by decide +kernel
theorem dX11_passesTwo_0 : decode cX11_passesTwo 0 = .ok (.iload_n 2, 1) := by decide +kernel
theorem dX11_passesTwo_1 : decode cX11_passesTwo 1 = .ok (.iconst 1, 1) := by decide +kernel
theorem dX11_passesTwo_2 : decode cX11_passesTwo 2 = .ok (.iadd, 1) := by decide +kernel
theorem dX11_passesTwo_3 : decode cX11_passesTwo 3 = .ok (.istore 6, 2) := by decide +kernel
theorem dX11_passesTwo_5 : decode cX11_passesTwo 5 = .ok (.iload 6, 2) := by decide +kernel
theorem dX11_passesTwo_7 : decode cX11_passesTwo 7 = .ok (.aload_n 0, 1) := by decide +kernel
theorem dX11_passesTwo_8 : decode cX11_passesTwo 8 = .ok (.invokevirtual 88, 3) := by decide +kernel
theorem dX11_passesTwo_11 : decode cX11_passesTwo 11 = .ok (.if_icmp .ge 36, 3) := by decide +kernel
theorem dX11_passesTwo_14 : decode cX11_passesTwo 14 = .ok (.aload_n 0, 1) := by decide +kernel
theorem dX11_passesTwo_15 : decode cX11_passesTwo 15 = .ok (.iload_n 1, 1) := by decide +kernel
theorem dX11_passesTwo_16 : decode cX11_passesTwo 16 = .ok (.iload 6, 2) := by decide +kernel
theorem dX11_passesTwo_18 : decode cX11_passesTwo 18 = .ok (.aload_n 0, 1) := by decide +kernel
theorem dX11_passesTwo_19 : decode cX11_passesTwo 19 = .ok (.iload_n 1, 1) := by decide +kernel
theorem dX11_passesTwo_20 : decode cX11_passesTwo 20 = .ok (.iload 6, 2) := by decide +kernel
theorem dX11_passesTwo_22 : decode cX11_passesTwo 22 = .ok (.invokevirtual 166, 3) := by decide +kernel
theorem dX11_passesTwo_25 : decode cX11_passesTwo 25 = .ok (.aload_n 0, 1) := by decide +kernel
theorem dX11_passesTwo_26 : decode cX11_passesTwo 26 = .ok (.iload_n 2, 1) := by decide +kernel
theorem dX11_passesTwo_27 : decode cX11_passesTwo 27 = .ok (.iload_n 3, 1) := by decide +kernel
theorem dX11_passesTwo_28 : decode cX11_passesTwo 28 = .ok (.iload 6, 2) := by decide +kernel
theorem dX11_passesTwo_30 : decode cX11_passesTwo 30 = .ok (.invokevirtual 130, 3) := by decide +kernel
theorem dX11_passesTwo_33 : decode cX11_passesTwo 33 = .ok (.i2l, 1) := by decide +kernel
theorem dX11_passesTwo_34 : decode cX11_passesTwo 34 = .ok (.lload 4, 2) := by decide +kernel
theorem dX11_passesTwo_36 : decode cX11_passesTwo 36 = .ok (.lmul, 1) := by decide +kernel
theorem dX11_passesTwo_37 : decode cX11_passesTwo 37 = .ok (.ladd, 1) := by decide +kernel
theorem dX11_passesTwo_38 : decode cX11_passesTwo 38 = .ok (.invokevirtual 162, 3) := by decide +kernel
theorem dX11_passesTwo_41 : decode cX11_passesTwo 41 = .ok (.iinc 6 1, 3) := by decide +kernel
theorem dX11_passesTwo_44 : decode cX11_passesTwo 44 = .ok (.goto (-39), 3) := by decide +kernel
theorem dX11_passesTwo_47 : decode cX11_passesTwo 47 = .ok (.return_, 1) := by decide +kernel
theorem dX11_timesLetter_0 : decode cX11_timesLetter 0 = .ok (.lload_n 3, 1) := by decide +kernel
theorem dX11_timesLetter_1 : decode cX11_timesLetter 1 = .ok (.lconst 0, 1) := by decide +kernel
theorem dX11_timesLetter_2 : decode cX11_timesLetter 2 = .ok (.lcmp, 1) := by decide +kernel
theorem dX11_timesLetter_3 : decode cX11_timesLetter 3 = .ok (.ifCond .ne 4, 3) := by decide +kernel
theorem dX11_timesLetter_6 : decode cX11_timesLetter 6 = .ok (.return_, 1) := by decide +kernel
theorem dX11_timesLetter_7 : decode cX11_timesLetter 7 = .ok (.aload_n 0, 1) := by decide +kernel
theorem dX11_timesLetter_8 : decode cX11_timesLetter 8 = .ok (.iload_n 2, 1) := by decide +kernel
theorem dX11_timesLetter_9 : decode cX11_timesLetter 9 = .ok (.invokevirtual 92, 3) := by decide +kernel
theorem dX11_timesLetter_12 : decode cX11_timesLetter 12 = .ok (.iconst 1, 1) := by decide +kernel
theorem dX11_timesLetter_13 : decode cX11_timesLetter 13 = .ok (.if_icmp .ne 64, 3) := by decide +kernel
theorem dX11_timesLetter_16 : decode cX11_timesLetter 16 = .ok (.iload_n 2, 1) := by decide +kernel
theorem dX11_timesLetter_17 : decode cX11_timesLetter 17 = .ok (.iconst 1, 1) := by decide +kernel
theorem dX11_timesLetter_18 : decode cX11_timesLetter 18 = .ok (.iadd, 1) := by decide +kernel
theorem dX11_timesLetter_19 : decode cX11_timesLetter 19 = .ok (.istore 5, 2) := by decide +kernel
theorem dX11_timesLetter_21 : decode cX11_timesLetter 21 = .ok (.iload 5, 2) := by decide +kernel
theorem dX11_timesLetter_23 : decode cX11_timesLetter 23 = .ok (.aload_n 0, 1) := by decide +kernel
theorem dX11_timesLetter_24 : decode cX11_timesLetter 24 = .ok (.invokevirtual 88, 3) := by decide +kernel
theorem dX11_timesLetter_27 : decode cX11_timesLetter 27 = .ok (.if_icmp .ge 50, 3) := by decide +kernel
theorem dX11_timesLetter_30 : decode cX11_timesLetter 30 = .ok (.aload_n 0, 1) := by decide +kernel
theorem dX11_timesLetter_31 : decode cX11_timesLetter 31 = .ok (.iload 5, 2) := by decide +kernel
theorem dX11_timesLetter_33 : decode cX11_timesLetter 33 = .ok (.invokevirtual 92, 3) := by decide +kernel
theorem dX11_timesLetter_36 : decode cX11_timesLetter 36 = .ok (.iconst 3, 1) := by decide +kernel
theorem dX11_timesLetter_37 : decode cX11_timesLetter 37 = .ok (.if_icmp .ge 40, 3) := by decide +kernel
theorem dX11_timesLetter_40 : decode cX11_timesLetter 40 = .ok (.aload_n 0, 1) := by decide +kernel
theorem dX11_timesLetter_41 : decode cX11_timesLetter 41 = .ok (.iload_n 1, 1) := by decide +kernel
theorem dX11_timesLetter_42 : decode cX11_timesLetter 42 = .ok (.iload 5, 2) := by decide +kernel
theorem dX11_timesLetter_44 : decode cX11_timesLetter 44 = .ok (.invokevirtual 166, 3) := by decide +kernel
theorem dX11_timesLetter_47 : decode cX11_timesLetter 47 = .ok (.lstore 6, 2) := by decide +kernel
theorem dX11_timesLetter_49 : decode cX11_timesLetter 49 = .ok (.aload_n 0, 1) := by decide +kernel
theorem dX11_timesLetter_50 : decode cX11_timesLetter 50 = .ok (.iload 5, 2) := by decide +kernel
theorem dX11_timesLetter_52 : decode cX11_timesLetter 52 = .ok (.invokevirtual 92, 3) := by decide +kernel
theorem dX11_timesLetter_55 : decode cX11_timesLetter 55 = .ok (.iconst 2, 1) := by decide +kernel
theorem dX11_timesLetter_56 : decode cX11_timesLetter 56 = .ok (.if_icmp .ne 15, 3) := by decide +kernel
theorem dX11_timesLetter_59 : decode cX11_timesLetter 59 = .ok (.aload_n 0, 1) := by decide +kernel
theorem dX11_timesLetter_60 : decode cX11_timesLetter 60 = .ok (.iload_n 1, 1) := by decide +kernel
theorem dX11_timesLetter_61 : decode cX11_timesLetter 61 = .ok (.iload 5, 2) := by decide +kernel
theorem dX11_timesLetter_63 : decode cX11_timesLetter 63 = .ok (.iload_n 2, 1) := by decide +kernel
theorem dX11_timesLetter_64 : decode cX11_timesLetter 64 = .ok (.lload 6, 2) := by decide +kernel
theorem dX11_timesLetter_66 : decode cX11_timesLetter 66 = .ok (.lload_n 3, 1) := by decide +kernel
theorem dX11_timesLetter_67 : decode cX11_timesLetter 67 = .ok (.lmul, 1) := by decide +kernel
theorem dX11_timesLetter_68 : decode cX11_timesLetter 68 = .ok (.invokevirtual 176, 3) := by decide +kernel
theorem dX11_timesLetter_71 : decode cX11_timesLetter 71 = .ok (.iinc 5 1, 3) := by decide +kernel
theorem dX11_timesLetter_74 : decode cX11_timesLetter 74 = .ok (.goto (-53), 3) := by decide +kernel
theorem dX11_timesLetter_77 : decode cX11_timesLetter 77 = .ok (.aload_n 0, 1) := by decide +kernel
theorem dX11_timesLetter_78 : decode cX11_timesLetter 78 = .ok (.iload_n 2, 1) := by decide +kernel
theorem dX11_timesLetter_79 : decode cX11_timesLetter 79 = .ok (.invokevirtual 92, 3) := by decide +kernel
theorem dX11_timesLetter_82 : decode cX11_timesLetter 82 = .ok (.iconst 1, 1) := by decide +kernel
theorem dX11_timesLetter_83 : decode cX11_timesLetter 83 = .ok (.if_icmp .ne 88, 3) := by decide +kernel
theorem dX11_timesLetter_86 : decode cX11_timesLetter 86 = .ok (.iload_n 2, 1) := by decide +kernel
theorem dX11_timesLetter_87 : decode cX11_timesLetter 87 = .ok (.iconst 1, 1) := by decide +kernel
theorem dX11_timesLetter_88 : decode cX11_timesLetter 88 = .ok (.iadd, 1) := by decide +kernel
theorem dX11_timesLetter_89 : decode cX11_timesLetter 89 = .ok (.istore 5, 2) := by decide +kernel
theorem dX11_timesLetter_91 : decode cX11_timesLetter 91 = .ok (.iload 5, 2) := by decide +kernel
theorem dX11_timesLetter_93 : decode cX11_timesLetter 93 = .ok (.aload_n 0, 1) := by decide +kernel
theorem dX11_timesLetter_94 : decode cX11_timesLetter 94 = .ok (.invokevirtual 88, 3) := by decide +kernel
theorem dX11_timesLetter_97 : decode cX11_timesLetter 97 = .ok (.if_icmp .ge 28, 3) := by decide +kernel
theorem dX11_timesLetter_100 : decode cX11_timesLetter 100 = .ok (.aload_n 0, 1) := by decide +kernel
theorem dX11_timesLetter_101 : decode cX11_timesLetter 101 = .ok (.iload 5, 2) := by decide +kernel
theorem dX11_timesLetter_103 : decode cX11_timesLetter 103 = .ok (.invokevirtual 92, 3) := by decide +kernel
theorem dX11_timesLetter_106 : decode cX11_timesLetter 106 = .ok (.iconst 1, 1) := by decide +kernel
theorem dX11_timesLetter_107 : decode cX11_timesLetter 107 = .ok (.if_icmp .ne 18, 3) := by decide +kernel
theorem dX11_timesLetter_110 : decode cX11_timesLetter 110 = .ok (.aload_n 0, 1) := by decide +kernel
theorem dX11_timesLetter_111 : decode cX11_timesLetter 111 = .ok (.iload_n 1, 1) := by decide +kernel
theorem dX11_timesLetter_112 : decode cX11_timesLetter 112 = .ok (.iload 5, 2) := by decide +kernel
theorem dX11_timesLetter_114 : decode cX11_timesLetter 114 = .ok (.iload_n 2, 1) := by decide +kernel
theorem dX11_timesLetter_115 : decode cX11_timesLetter 115 = .ok (.lload_n 3, 1) := by decide +kernel
theorem dX11_timesLetter_116 : decode cX11_timesLetter 116 = .ok (.invokevirtual 180, 3) := by decide +kernel
theorem dX11_timesLetter_119 : decode cX11_timesLetter 119 = .ok (.iinc 5 1, 3) := by decide +kernel
theorem dX11_timesLetter_122 : decode cX11_timesLetter 122 = .ok (.goto (-31), 3) := by decide +kernel
theorem dX11_timesLetter_125 : decode cX11_timesLetter 125 = .ok (.iconst 0, 1) := by decide +kernel
theorem dX11_timesLetter_126 : decode cX11_timesLetter 126 = .ok (.istore 5, 2) := by decide +kernel
theorem dX11_timesLetter_128 : decode cX11_timesLetter 128 = .ok (.iload 5, 2) := by decide +kernel
theorem dX11_timesLetter_130 : decode cX11_timesLetter 130 = .ok (.bipush 6, 2) := by decide +kernel
theorem dX11_timesLetter_132 : decode cX11_timesLetter 132 = .ok (.if_icmp .ge 39, 3) := by decide +kernel
theorem dX11_timesLetter_135 : decode cX11_timesLetter 135 = .ok (.aload_n 0, 1) := by decide +kernel
theorem dX11_timesLetter_136 : decode cX11_timesLetter 136 = .ok (.iload_n 1, 1) := by decide +kernel
theorem dX11_timesLetter_137 : decode cX11_timesLetter 137 = .ok (.iload 5, 2) := by decide +kernel
theorem dX11_timesLetter_139 : decode cX11_timesLetter 139 = .ok (.aload_n 0, 1) := by decide +kernel
theorem dX11_timesLetter_140 : decode cX11_timesLetter 140 = .ok (.iload_n 1, 1) := by decide +kernel
theorem dX11_timesLetter_141 : decode cX11_timesLetter 141 = .ok (.iload 5, 2) := by decide +kernel
theorem dX11_timesLetter_143 : decode cX11_timesLetter 143 = .ok (.invokevirtual 166, 3) := by decide +kernel
theorem dX11_timesLetter_146 : decode cX11_timesLetter 146 = .ok (.aload_n 0, 1) := by decide +kernel
theorem dX11_timesLetter_147 : decode cX11_timesLetter 147 = .ok (.getfield 37, 3) := by decide +kernel
theorem dX11_timesLetter_150 : decode cX11_timesLetter 150 = .ok (.iload 5, 2) := by decide +kernel
theorem dX11_timesLetter_152 : decode cX11_timesLetter 152 = .ok (.laload, 1) := by decide +kernel
theorem dX11_timesLetter_153 : decode cX11_timesLetter 153 = .ok (.ladd, 1) := by decide +kernel
theorem dX11_timesLetter_154 : decode cX11_timesLetter 154 = .ok (.invokevirtual 162, 3) := by decide +kernel
theorem dX11_timesLetter_157 : decode cX11_timesLetter 157 = .ok (.aload_n 0, 1) := by decide +kernel
theorem dX11_timesLetter_158 : decode cX11_timesLetter 158 = .ok (.getfield 37, 3) := by decide +kernel
theorem dX11_timesLetter_161 : decode cX11_timesLetter 161 = .ok (.iload 5, 2) := by decide +kernel
theorem dX11_timesLetter_163 : decode cX11_timesLetter 163 = .ok (.lconst 0, 1) := by decide +kernel
theorem dX11_timesLetter_164 : decode cX11_timesLetter 164 = .ok (.lastore, 1) := by decide +kernel
theorem dX11_timesLetter_165 : decode cX11_timesLetter 165 = .ok (.iinc 5 1, 3) := by decide +kernel
theorem dX11_timesLetter_168 : decode cX11_timesLetter 168 = .ok (.goto (-40), 3) := by decide +kernel
theorem dX11_timesLetter_171 : decode cX11_timesLetter 171 = .ok (.aload_n 0, 1) := by decide +kernel
theorem dX11_timesLetter_172 : decode cX11_timesLetter 172 = .ok (.iload_n 1, 1) := by decide +kernel
theorem dX11_timesLetter_173 : decode cX11_timesLetter 173 = .ok (.iload_n 2, 1) := by decide +kernel
theorem dX11_timesLetter_174 : decode cX11_timesLetter 174 = .ok (.aload_n 0, 1) := by decide +kernel
theorem dX11_timesLetter_175 : decode cX11_timesLetter 175 = .ok (.iload_n 1, 1) := by decide +kernel
theorem dX11_timesLetter_176 : decode cX11_timesLetter 176 = .ok (.iload_n 2, 1) := by decide +kernel
theorem dX11_timesLetter_177 : decode cX11_timesLetter 177 = .ok (.invokevirtual 166, 3) := by decide +kernel
theorem dX11_timesLetter_180 : decode cX11_timesLetter 180 = .ok (.lload_n 3, 1) := by decide +kernel
theorem dX11_timesLetter_181 : decode cX11_timesLetter 181 = .ok (.ladd, 1) := by decide +kernel
theorem dX11_timesLetter_182 : decode cX11_timesLetter 182 = .ok (.invokevirtual 162, 3) := by decide +kernel
theorem dX11_timesLetter_185 : decode cX11_timesLetter 185 = .ok (.return_, 1) := by decide +kernel
theorem dX11_passesOne_0 : decode cX11_passesOne 0 = .ok (.aload_n 0, 1) := by decide +kernel
theorem dX11_passesOne_1 : decode cX11_passesOne 1 = .ok (.iload_n 1, 1) := by decide +kernel
theorem dX11_passesOne_2 : decode cX11_passesOne 2 = .ok (.iload_n 2, 1) := by decide +kernel
theorem dX11_passesOne_3 : decode cX11_passesOne 3 = .ok (.invokevirtual 166, 3) := by decide +kernel
theorem dX11_passesOne_6 : decode cX11_passesOne 6 = .ok (.lstore 6, 2) := by decide +kernel
theorem dX11_passesOne_8 : decode cX11_passesOne 8 = .ok (.iload_n 2, 1) := by decide +kernel
theorem dX11_passesOne_9 : decode cX11_passesOne 9 = .ok (.iconst 1, 1) := by decide +kernel
theorem dX11_passesOne_10 : decode cX11_passesOne 10 = .ok (.iadd, 1) := by decide +kernel
theorem dX11_passesOne_11 : decode cX11_passesOne 11 = .ok (.istore 8, 2) := by decide +kernel
theorem dX11_passesOne_13 : decode cX11_passesOne 13 = .ok (.iload 8, 2) := by decide +kernel
theorem dX11_passesOne_15 : decode cX11_passesOne 15 = .ok (.aload_n 0, 1) := by decide +kernel
theorem dX11_passesOne_16 : decode cX11_passesOne 16 = .ok (.invokevirtual 88, 3) := by decide +kernel
theorem dX11_passesOne_19 : decode cX11_passesOne 19 = .ok (.if_icmp .ge 219, 3) := by decide +kernel
theorem dX11_passesOne_22 : decode cX11_passesOne 22 = .ok (.aload_n 0, 1) := by decide +kernel
theorem dX11_passesOne_23 : decode cX11_passesOne 23 = .ok (.iload_n 2, 1) := by decide +kernel
theorem dX11_passesOne_24 : decode cX11_passesOne 24 = .ok (.iload_n 3, 1) := by decide +kernel
theorem dX11_passesOne_25 : decode cX11_passesOne 25 = .ok (.iload 8, 2) := by decide +kernel
theorem dX11_passesOne_27 : decode cX11_passesOne 27 = .ok (.invokevirtual 130, 3) := by decide +kernel
theorem dX11_passesOne_30 : decode cX11_passesOne 30 = .ok (.istore 9, 2) := by decide +kernel
theorem dX11_passesOne_32 : decode cX11_passesOne 32 = .ok (.iload 9, 2) := by decide +kernel
theorem dX11_passesOne_34 : decode cX11_passesOne 34 = .ok (.ifCond .ne 6, 3) := by decide +kernel
theorem dX11_passesOne_37 : decode cX11_passesOne 37 = .ok (.goto 195, 3) := by decide +kernel
theorem dX11_passesOne_40 : decode cX11_passesOne 40 = .ok (.aload_n 0, 1) := by decide +kernel
theorem dX11_passesOne_41 : decode cX11_passesOne 41 = .ok (.getfield 37, 3) := by decide +kernel
theorem dX11_passesOne_44 : decode cX11_passesOne 44 = .ok (.iload 8, 2) := by decide +kernel
theorem dX11_passesOne_46 : decode cX11_passesOne 46 = .ok (.aload_n 0, 1) := by decide +kernel
theorem dX11_passesOne_47 : decode cX11_passesOne 47 = .ok (.getfield 37, 3) := by decide +kernel
theorem dX11_passesOne_50 : decode cX11_passesOne 50 = .ok (.iload 8, 2) := by decide +kernel
theorem dX11_passesOne_52 : decode cX11_passesOne 52 = .ok (.laload, 1) := by decide +kernel
theorem dX11_passesOne_53 : decode cX11_passesOne 53 = .ok (.iload 9, 2) := by decide +kernel
theorem dX11_passesOne_55 : decode cX11_passesOne 55 = .ok (.i2l, 1) := by decide +kernel
theorem dX11_passesOne_56 : decode cX11_passesOne 56 = .ok (.lload 6, 2) := by decide +kernel
theorem dX11_passesOne_58 : decode cX11_passesOne 58 = .ok (.lmul, 1) := by decide +kernel
theorem dX11_passesOne_59 : decode cX11_passesOne 59 = .ok (.lload 4, 2) := by decide +kernel
theorem dX11_passesOne_61 : decode cX11_passesOne 61 = .ok (.lmul, 1) := by decide +kernel
theorem dX11_passesOne_62 : decode cX11_passesOne 62 = .ok (.ladd, 1) := by decide +kernel
theorem dX11_passesOne_63 : decode cX11_passesOne 63 = .ok (.lastore, 1) := by decide +kernel
theorem dX11_passesOne_64 : decode cX11_passesOne 64 = .ok (.aload_n 0, 1) := by decide +kernel
theorem dX11_passesOne_65 : decode cX11_passesOne 65 = .ok (.iload 8, 2) := by decide +kernel
theorem dX11_passesOne_67 : decode cX11_passesOne 67 = .ok (.invokevirtual 92, 3) := by decide +kernel
theorem dX11_passesOne_70 : decode cX11_passesOne 70 = .ok (.iconst 2, 1) := by decide +kernel
theorem dX11_passesOne_71 : decode cX11_passesOne 71 = .ok (.if_icmp .le 6, 3) := by decide +kernel
theorem dX11_passesOne_74 : decode cX11_passesOne 74 = .ok (.goto 158, 3) := by decide +kernel
theorem dX11_passesOne_77 : decode cX11_passesOne 77 = .ok (.iload 8, 2) := by decide +kernel
theorem dX11_passesOne_79 : decode cX11_passesOne 79 = .ok (.iconst 1, 1) := by decide +kernel
theorem dX11_passesOne_80 : decode cX11_passesOne 80 = .ok (.iadd, 1) := by decide +kernel
theorem dX11_passesOne_81 : decode cX11_passesOne 81 = .ok (.istore 10, 2) := by decide +kernel
theorem dX11_passesOne_83 : decode cX11_passesOne 83 = .ok (.iload 10, 2) := by decide +kernel
theorem dX11_passesOne_85 : decode cX11_passesOne 85 = .ok (.aload_n 0, 1) := by decide +kernel
theorem dX11_passesOne_86 : decode cX11_passesOne 86 = .ok (.invokevirtual 88, 3) := by decide +kernel
theorem dX11_passesOne_89 : decode cX11_passesOne 89 = .ok (.if_icmp .ge 143, 3) := by decide +kernel
theorem dX11_passesOne_92 : decode cX11_passesOne 92 = .ok (.aload_n 0, 1) := by decide +kernel
theorem dX11_passesOne_93 : decode cX11_passesOne 93 = .ok (.getfield 37, 3) := by decide +kernel
theorem dX11_passesOne_96 : decode cX11_passesOne 96 = .ok (.iload 10, 2) := by decide +kernel
theorem dX11_passesOne_98 : decode cX11_passesOne 98 = .ok (.aload_n 0, 1) := by decide +kernel
theorem dX11_passesOne_99 : decode cX11_passesOne 99 = .ok (.getfield 37, 3) := by decide +kernel
theorem dX11_passesOne_102 : decode cX11_passesOne 102 = .ok (.iload 10, 2) := by decide +kernel
theorem dX11_passesOne_104 : decode cX11_passesOne 104 = .ok (.laload, 1) := by decide +kernel
theorem dX11_passesOne_105 : decode cX11_passesOne 105 = .ok (.iload 9, 2) := by decide +kernel
theorem dX11_passesOne_107 : decode cX11_passesOne 107 = .ok (.i2l, 1) := by decide +kernel
theorem dX11_passesOne_108 : decode cX11_passesOne 108 = .ok (.aload_n 0, 1) := by decide +kernel
theorem dX11_passesOne_109 : decode cX11_passesOne 109 = .ok (.iload 8, 2) := by decide +kernel
theorem dX11_passesOne_111 : decode cX11_passesOne 111 = .ok (.iload_n 3, 1) := by decide +kernel
theorem dX11_passesOne_112 : decode cX11_passesOne 112 = .ok (.iload 10, 2) := by decide +kernel
theorem dX11_passesOne_114 : decode cX11_passesOne 114 = .ok (.invokevirtual 130, 3) := by decide +kernel
theorem dX11_passesOne_117 : decode cX11_passesOne 117 = .ok (.i2l, 1) := by decide +kernel
theorem dX11_passesOne_118 : decode cX11_passesOne 118 = .ok (.lload 6, 2) := by decide +kernel
theorem dX11_passesOne_120 : decode cX11_passesOne 120 = .ok (.lmul, 1) := by decide +kernel
theorem dX11_passesOne_121 : decode cX11_passesOne 121 = .ok (.aload_n 0, 1) := by decide +kernel
theorem dX11_passesOne_122 : decode cX11_passesOne 122 = .ok (.lload 4, 2) := by decide +kernel
theorem dX11_passesOne_124 : decode cX11_passesOne 124 = .ok (.invokevirtual 183, 3) := by decide +kernel
theorem dX11_passesOne_127 : decode cX11_passesOne 127 = .ok (.lmul, 1) := by decide +kernel
theorem dX11_passesOne_128 : decode cX11_passesOne 128 = .ok (.aload_n 0, 1) := by decide +kernel
theorem dX11_passesOne_129 : decode cX11_passesOne 129 = .ok (.iload 8, 2) := by decide +kernel
theorem dX11_passesOne_131 : decode cX11_passesOne 131 = .ok (.iload_n 2, 1) := by decide +kernel
theorem dX11_passesOne_132 : decode cX11_passesOne 132 = .ok (.iload 10, 2) := by decide +kernel
theorem dX11_passesOne_134 : decode cX11_passesOne 134 = .ok (.invokevirtual 130, 3) := by decide +kernel
theorem dX11_passesOne_137 : decode cX11_passesOne 137 = .ok (.i2l, 1) := by decide +kernel
theorem dX11_passesOne_138 : decode cX11_passesOne 138 = .ok (.lload 4, 2) := by decide +kernel
theorem dX11_passesOne_140 : decode cX11_passesOne 140 = .ok (.lmul, 1) := by decide +kernel
theorem dX11_passesOne_141 : decode cX11_passesOne 141 = .ok (.aload_n 0, 1) := by decide +kernel
theorem dX11_passesOne_142 : decode cX11_passesOne 142 = .ok (.lload 6, 2) := by decide +kernel
theorem dX11_passesOne_144 : decode cX11_passesOne 144 = .ok (.invokevirtual 183, 3) := by decide +kernel
theorem dX11_passesOne_147 : decode cX11_passesOne 147 = .ok (.lmul, 1) := by decide +kernel
theorem dX11_passesOne_148 : decode cX11_passesOne 148 = .ok (.ladd, 1) := by decide +kernel
theorem dX11_passesOne_149 : decode cX11_passesOne 149 = .ok (.lmul, 1) := by decide +kernel
theorem dX11_passesOne_150 : decode cX11_passesOne 150 = .ok (.ladd, 1) := by decide +kernel
theorem dX11_passesOne_151 : decode cX11_passesOne 151 = .ok (.lastore, 1) := by decide +kernel
theorem dX11_passesOne_152 : decode cX11_passesOne 152 = .ok (.iload_n 2, 1) := by decide +kernel
theorem dX11_passesOne_153 : decode cX11_passesOne 153 = .ok (.iconst 1, 1) := by decide +kernel
theorem dX11_passesOne_154 : decode cX11_passesOne 154 = .ok (.iadd, 1) := by decide +kernel
theorem dX11_passesOne_155 : decode cX11_passesOne 155 = .ok (.istore 11, 2) := by decide +kernel
theorem dX11_passesOne_157 : decode cX11_passesOne 157 = .ok (.iload 11, 2) := by decide +kernel
theorem dX11_passesOne_159 : decode cX11_passesOne 159 = .ok (.aload_n 0, 1) := by decide +kernel
theorem dX11_passesOne_160 : decode cX11_passesOne 160 = .ok (.invokevirtual 88, 3) := by decide +kernel
theorem dX11_passesOne_163 : decode cX11_passesOne 163 = .ok (.if_icmp .ge 63, 3) := by decide +kernel
theorem dX11_passesOne_166 : decode cX11_passesOne 166 = .ok (.aload_n 0, 1) := by decide +kernel
theorem dX11_passesOne_167 : decode cX11_passesOne 167 = .ok (.iload 11, 2) := by decide +kernel
theorem dX11_passesOne_169 : decode cX11_passesOne 169 = .ok (.invokevirtual 92, 3) := by decide +kernel
theorem dX11_passesOne_172 : decode cX11_passesOne 172 = .ok (.iconst 1, 1) := by decide +kernel
theorem dX11_passesOne_173 : decode cX11_passesOne 173 = .ok (.if_icmp .ne 53, 3) := by decide +kernel
theorem dX11_passesOne_176 : decode cX11_passesOne 176 = .ok (.aload_n 0, 1) := by decide +kernel
theorem dX11_passesOne_177 : decode cX11_passesOne 177 = .ok (.getfield 37, 3) := by decide +kernel
theorem dX11_passesOne_180 : decode cX11_passesOne 180 = .ok (.iload 10, 2) := by decide +kernel
theorem dX11_passesOne_182 : decode cX11_passesOne 182 = .ok (.aload_n 0, 1) := by decide +kernel
theorem dX11_passesOne_183 : decode cX11_passesOne 183 = .ok (.getfield 37, 3) := by decide +kernel
theorem dX11_passesOne_186 : decode cX11_passesOne 186 = .ok (.iload 10, 2) := by decide +kernel
theorem dX11_passesOne_188 : decode cX11_passesOne 188 = .ok (.laload, 1) := by decide +kernel
theorem dX11_passesOne_189 : decode cX11_passesOne 189 = .ok (.iload 9, 2) := by decide +kernel
theorem dX11_passesOne_191 : decode cX11_passesOne 191 = .ok (.i2l, 1) := by decide +kernel
theorem dX11_passesOne_192 : decode cX11_passesOne 192 = .ok (.lload 6, 2) := by decide +kernel
theorem dX11_passesOne_194 : decode cX11_passesOne 194 = .ok (.lmul, 1) := by decide +kernel
theorem dX11_passesOne_195 : decode cX11_passesOne 195 = .ok (.lload 4, 2) := by decide +kernel
theorem dX11_passesOne_197 : decode cX11_passesOne 197 = .ok (.lmul, 1) := by decide +kernel
theorem dX11_passesOne_198 : decode cX11_passesOne 198 = .ok (.aload_n 0, 1) := by decide +kernel
theorem dX11_passesOne_199 : decode cX11_passesOne 199 = .ok (.iload 8, 2) := by decide +kernel
theorem dX11_passesOne_201 : decode cX11_passesOne 201 = .ok (.iload 11, 2) := by decide +kernel
theorem dX11_passesOne_203 : decode cX11_passesOne 203 = .ok (.iload 10, 2) := by decide +kernel
theorem dX11_passesOne_205 : decode cX11_passesOne 205 = .ok (.invokevirtual 130, 3) := by decide +kernel
theorem dX11_passesOne_208 : decode cX11_passesOne 208 = .ok (.i2l, 1) := by decide +kernel
theorem dX11_passesOne_209 : decode cX11_passesOne 209 = .ok (.lmul, 1) := by decide +kernel
theorem dX11_passesOne_210 : decode cX11_passesOne 210 = .ok (.aload_n 0, 1) := by decide +kernel
theorem dX11_passesOne_211 : decode cX11_passesOne 211 = .ok (.iload_n 1, 1) := by decide +kernel
theorem dX11_passesOne_212 : decode cX11_passesOne 212 = .ok (.iload 11, 2) := by decide +kernel
theorem dX11_passesOne_214 : decode cX11_passesOne 214 = .ok (.invokevirtual 166, 3) := by decide +kernel
theorem dX11_passesOne_217 : decode cX11_passesOne 217 = .ok (.lmul, 1) := by decide +kernel
theorem dX11_passesOne_218 : decode cX11_passesOne 218 = .ok (.ladd, 1) := by decide +kernel
theorem dX11_passesOne_219 : decode cX11_passesOne 219 = .ok (.lastore, 1) := by decide +kernel
theorem dX11_passesOne_220 : decode cX11_passesOne 220 = .ok (.iinc 11 1, 3) := by decide +kernel
theorem dX11_passesOne_223 : decode cX11_passesOne 223 = .ok (.goto (-66), 3) := by decide +kernel
theorem dX11_passesOne_226 : decode cX11_passesOne 226 = .ok (.iinc 10 1, 3) := by decide +kernel
theorem dX11_passesOne_229 : decode cX11_passesOne 229 = .ok (.goto (-146), 3) := by decide +kernel
theorem dX11_passesOne_232 : decode cX11_passesOne 232 = .ok (.iinc 8 1, 3) := by decide +kernel
theorem dX11_passesOne_235 : decode cX11_passesOne 235 = .ok (.goto (-222), 3) := by decide +kernel
theorem dX11_passesOne_238 : decode cX11_passesOne 238 = .ok (.return_, 1) := by decide +kernel
theorem dX11_times_0 : decode cX11_times 0 = .ok (.iconst 0, 1) := by decide +kernel
theorem dX11_times_1 : decode cX11_times 1 = .ok (.istore_n 3, 1) := by decide +kernel
theorem dX11_times_2 : decode cX11_times 2 = .ok (.iload_n 3, 1) := by decide +kernel
theorem dX11_times_3 : decode cX11_times 3 = .ok (.aload_n 0, 1) := by decide +kernel
theorem dX11_times_4 : decode cX11_times 4 = .ok (.invokevirtual 88, 3) := by decide +kernel
theorem dX11_times_7 : decode cX11_times 7 = .ok (.if_icmp .ge 21, 3) := by decide +kernel
theorem dX11_times_10 : decode cX11_times 10 = .ok (.aload_n 0, 1) := by decide +kernel
theorem dX11_times_11 : decode cX11_times 11 = .ok (.iload_n 1, 1) := by decide +kernel
theorem dX11_times_12 : decode cX11_times 12 = .ok (.iload_n 3, 1) := by decide +kernel
theorem dX11_times_13 : decode cX11_times 13 = .ok (.aload_n 0, 1) := by decide +kernel
theorem dX11_times_14 : decode cX11_times 14 = .ok (.iload_n 2, 1) := by decide +kernel
theorem dX11_times_15 : decode cX11_times 15 = .ok (.iload_n 3, 1) := by decide +kernel
theorem dX11_times_16 : decode cX11_times 16 = .ok (.invokevirtual 166, 3) := by decide +kernel
theorem dX11_times_19 : decode cX11_times 19 = .ok (.invokevirtual 187, 3) := by decide +kernel
theorem dX11_times_22 : decode cX11_times 22 = .ok (.iinc 3 1, 3) := by decide +kernel
theorem dX11_times_25 : decode cX11_times 25 = .ok (.goto (-23), 3) := by decide +kernel
theorem dX11_times_28 : decode cX11_times 28 = .ok (.return_, 1) := by decide +kernel
theorem dX11_inverse_0 : decode cX11_inverse 0 = .ok (.aload_n 0, 1) := by decide +kernel
theorem dX11_inverse_1 : decode cX11_inverse 1 = .ok (.iload_n 2, 1) := by decide +kernel
theorem dX11_inverse_2 : decode cX11_inverse 2 = .ok (.invokevirtual 190, 3) := by decide +kernel
theorem dX11_inverse_5 : decode cX11_inverse 5 = .ok (.iconst 0, 1) := by decide +kernel
theorem dX11_inverse_6 : decode cX11_inverse 6 = .ok (.istore_n 3, 1) := by decide +kernel
theorem dX11_inverse_7 : decode cX11_inverse 7 = .ok (.iload_n 3, 1) := by decide +kernel
theorem dX11_inverse_8 : decode cX11_inverse 8 = .ok (.aload_n 0, 1) := by decide +kernel
theorem dX11_inverse_9 : decode cX11_inverse 9 = .ok (.invokevirtual 88, 3) := by decide +kernel
theorem dX11_inverse_12 : decode cX11_inverse 12 = .ok (.if_icmp .ge 40, 3) := by decide +kernel
theorem dX11_inverse_15 : decode cX11_inverse 15 = .ok (.aload_n 0, 1) := by decide +kernel
theorem dX11_inverse_16 : decode cX11_inverse 16 = .ok (.iload_n 1, 1) := by decide +kernel
theorem dX11_inverse_17 : decode cX11_inverse 17 = .ok (.iload_n 2, 1) := by decide +kernel
theorem dX11_inverse_18 : decode cX11_inverse 18 = .ok (.iconst 1, 1) := by decide +kernel
theorem dX11_inverse_19 : decode cX11_inverse 19 = .ok (.iadd, 1) := by decide +kernel
theorem dX11_inverse_20 : decode cX11_inverse 20 = .ok (.invokevirtual 193, 3) := by decide +kernel
theorem dX11_inverse_23 : decode cX11_inverse 23 = .ok (.aload_n 0, 1) := by decide +kernel
theorem dX11_inverse_24 : decode cX11_inverse 24 = .ok (.iload_n 2, 1) := by decide +kernel
theorem dX11_inverse_25 : decode cX11_inverse 25 = .ok (.iconst 1, 1) := by decide +kernel
theorem dX11_inverse_26 : decode cX11_inverse 26 = .ok (.iadd, 1) := by decide +kernel
theorem dX11_inverse_27 : decode cX11_inverse 27 = .ok (.iload_n 2, 1) := by decide +kernel
theorem dX11_inverse_28 : decode cX11_inverse 28 = .ok (.invokevirtual 197, 3) := by decide +kernel
theorem dX11_inverse_31 : decode cX11_inverse 31 = .ok (.aload_n 0, 1) := by decide +kernel
theorem dX11_inverse_32 : decode cX11_inverse 32 = .ok (.iload_n 2, 1) := by decide +kernel
theorem dX11_inverse_33 : decode cX11_inverse 33 = .ok (.iload_n 3, 1) := by decide +kernel
theorem dX11_inverse_34 : decode cX11_inverse 34 = .ok (.aload_n 0, 1) := by decide +kernel
theorem dX11_inverse_35 : decode cX11_inverse 35 = .ok (.iload_n 2, 1) := by decide +kernel
theorem dX11_inverse_36 : decode cX11_inverse 36 = .ok (.iconst 1, 1) := by decide +kernel
theorem dX11_inverse_37 : decode cX11_inverse 37 = .ok (.iadd, 1) := by decide +kernel
theorem dX11_inverse_38 : decode cX11_inverse 38 = .ok (.iload_n 3, 1) := by decide +kernel
theorem dX11_inverse_39 : decode cX11_inverse 39 = .ok (.invokevirtual 166, 3) := by decide +kernel
theorem dX11_inverse_42 : decode cX11_inverse 42 = .ok (.lneg, 1) := by decide +kernel
theorem dX11_inverse_43 : decode cX11_inverse 43 = .ok (.invokevirtual 162, 3) := by decide +kernel
theorem dX11_inverse_46 : decode cX11_inverse 46 = .ok (.iinc 3 1, 3) := by decide +kernel
theorem dX11_inverse_49 : decode cX11_inverse 49 = .ok (.goto (-42), 3) := by decide +kernel
theorem dX11_inverse_52 : decode cX11_inverse 52 = .ok (.return_, 1) := by decide +kernel
theorem dX11_raises_0 : decode cX11_raises 0 = .ok (.iload_n 3, 1) := by decide +kernel
theorem dX11_raises_1 : decode cX11_raises 1 = .ok (.ifCond .ge 14, 3) := by decide +kernel
theorem dX11_raises_4 : decode cX11_raises 4 = .ok (.aload_n 0, 1) := by decide +kernel
theorem dX11_raises_5 : decode cX11_raises 5 = .ok (.iload_n 1, 1) := by decide +kernel
theorem dX11_raises_6 : decode cX11_raises 6 = .ok (.iload_n 2, 1) := by decide +kernel
theorem dX11_raises_7 : decode cX11_raises 7 = .ok (.iconst 2, 1) := by decide +kernel
theorem dX11_raises_8 : decode cX11_raises 8 = .ok (.iadd, 1) := by decide +kernel
theorem dX11_raises_9 : decode cX11_raises 9 = .ok (.invokevirtual 200, 3) := by decide +kernel
theorem dX11_raises_12 : decode cX11_raises 12 = .ok (.goto 11, 3) := by decide +kernel
theorem dX11_raises_15 : decode cX11_raises 15 = .ok (.aload_n 0, 1) := by decide +kernel
theorem dX11_raises_16 : decode cX11_raises 16 = .ok (.iload_n 1, 1) := by decide +kernel
theorem dX11_raises_17 : decode cX11_raises 17 = .ok (.iload_n 2, 1) := by decide +kernel
theorem dX11_raises_18 : decode cX11_raises 18 = .ok (.iconst 2, 1) := by decide +kernel
theorem dX11_raises_19 : decode cX11_raises 19 = .ok (.iadd, 1) := by decide +kernel
theorem dX11_raises_20 : decode cX11_raises 20 = .ok (.invokevirtual 193, 3) := by decide +kernel
theorem dX11_raises_23 : decode cX11_raises 23 = .ok (.aload_n 0, 1) := by decide +kernel
theorem dX11_raises_24 : decode cX11_raises 24 = .ok (.iload_n 2, 1) := by decide +kernel
theorem dX11_raises_25 : decode cX11_raises 25 = .ok (.invokevirtual 190, 3) := by decide +kernel
theorem dX11_raises_28 : decode cX11_raises 28 = .ok (.iload_n 3, 1) := by decide +kernel
theorem dX11_raises_29 : decode cX11_raises 29 = .ok (.ifCond .ge 8, 3) := by decide +kernel
theorem dX11_raises_32 : decode cX11_raises 32 = .ok (.iload_n 3, 1) := by decide +kernel
theorem dX11_raises_33 : decode cX11_raises 33 = .ok (.ineg, 1) := by decide +kernel
theorem dX11_raises_34 : decode cX11_raises 34 = .ok (.goto 4, 3) := by decide +kernel
theorem dX11_raises_37 : decode cX11_raises 37 = .ok (.iload_n 3, 1) := by decide +kernel
theorem dX11_raises_38 : decode cX11_raises 38 = .ok (.istore 4, 2) := by decide +kernel
theorem dX11_raises_40 : decode cX11_raises 40 = .ok (.iload 4, 2) := by decide +kernel
theorem dX11_raises_42 : decode cX11_raises 42 = .ok (.ifCond .le 17, 3) := by decide +kernel
theorem dX11_raises_45 : decode cX11_raises 45 = .ok (.aload_n 0, 1) := by decide +kernel
theorem dX11_raises_46 : decode cX11_raises 46 = .ok (.iload_n 2, 1) := by decide +kernel
theorem dX11_raises_47 : decode cX11_raises 47 = .ok (.iload_n 2, 1) := by decide +kernel
theorem dX11_raises_48 : decode cX11_raises 48 = .ok (.iconst 2, 1) := by decide +kernel
theorem dX11_raises_49 : decode cX11_raises 49 = .ok (.iadd, 1) := by decide +kernel
theorem dX11_raises_50 : decode cX11_raises 50 = .ok (.invokevirtual 197, 3) := by decide +kernel
theorem dX11_raises_53 : decode cX11_raises 53 = .ok (.iinc 4 (-1), 3) := by decide +kernel
theorem dX11_raises_56 : decode cX11_raises 56 = .ok (.goto (-16), 3) := by decide +kernel
theorem dX11_raises_59 : decode cX11_raises 59 = .ok (.return_, 1) := by decide +kernel
theorem dX11_commutator_0 : decode cX11_commutator 0 = .ok (.aload_n 0, 1) := by decide +kernel
theorem dX11_commutator_1 : decode cX11_commutator 1 = .ok (.iload_n 1, 1) := by decide +kernel
theorem dX11_commutator_2 : decode cX11_commutator 2 = .ok (.iload_n 3, 1) := by decide +kernel
theorem dX11_commutator_3 : decode cX11_commutator 3 = .ok (.invokevirtual 200, 3) := by decide +kernel
theorem dX11_commutator_6 : decode cX11_commutator 6 = .ok (.aload_n 0, 1) := by decide +kernel
theorem dX11_commutator_7 : decode cX11_commutator 7 = .ok (.iload_n 2, 1) := by decide +kernel
theorem dX11_commutator_8 : decode cX11_commutator 8 = .ok (.iload_n 3, 1) := by decide +kernel
theorem dX11_commutator_9 : decode cX11_commutator 9 = .ok (.iconst 1, 1) := by decide +kernel
theorem dX11_commutator_10 : decode cX11_commutator 10 = .ok (.iadd, 1) := by decide +kernel
theorem dX11_commutator_11 : decode cX11_commutator 11 = .ok (.invokevirtual 200, 3) := by decide +kernel
theorem dX11_commutator_14 : decode cX11_commutator 14 = .ok (.aload_n 0, 1) := by decide +kernel
theorem dX11_commutator_15 : decode cX11_commutator 15 = .ok (.iload_n 3, 1) := by decide +kernel
theorem dX11_commutator_16 : decode cX11_commutator 16 = .ok (.iload_n 3, 1) := by decide +kernel
theorem dX11_commutator_17 : decode cX11_commutator 17 = .ok (.iconst 1, 1) := by decide +kernel
theorem dX11_commutator_18 : decode cX11_commutator 18 = .ok (.iadd, 1) := by decide +kernel
theorem dX11_commutator_19 : decode cX11_commutator 19 = .ok (.invokevirtual 197, 3) := by decide +kernel
theorem dX11_commutator_22 : decode cX11_commutator 22 = .ok (.aload_n 0, 1) := by decide +kernel
theorem dX11_commutator_23 : decode cX11_commutator 23 = .ok (.iload_n 3, 1) := by decide +kernel
theorem dX11_commutator_24 : decode cX11_commutator 24 = .ok (.iload_n 1, 1) := by decide +kernel
theorem dX11_commutator_25 : decode cX11_commutator 25 = .ok (.invokevirtual 197, 3) := by decide +kernel
theorem dX11_commutator_28 : decode cX11_commutator 28 = .ok (.aload_n 0, 1) := by decide +kernel
theorem dX11_commutator_29 : decode cX11_commutator 29 = .ok (.iload_n 3, 1) := by decide +kernel
theorem dX11_commutator_30 : decode cX11_commutator 30 = .ok (.iload_n 2, 1) := by decide +kernel
theorem dX11_commutator_31 : decode cX11_commutator 31 = .ok (.invokevirtual 197, 3) := by decide +kernel
theorem dX11_commutator_34 : decode cX11_commutator 34 = .ok (.return_, 1) := by decide +kernel
theorem dX11_conjugates_0 : decode cX11_conjugates 0 = .ok (.aload_n 0, 1) := by decide +kernel
theorem dX11_conjugates_1 : decode cX11_conjugates 1 = .ok (.iload_n 2, 1) := by decide +kernel
theorem dX11_conjugates_2 : decode cX11_conjugates 2 = .ok (.iload_n 3, 1) := by decide +kernel
theorem dX11_conjugates_3 : decode cX11_conjugates 3 = .ok (.invokevirtual 200, 3) := by decide +kernel
theorem dX11_conjugates_6 : decode cX11_conjugates 6 = .ok (.aload_n 0, 1) := by decide +kernel
theorem dX11_conjugates_7 : decode cX11_conjugates 7 = .ok (.iload_n 3, 1) := by decide +kernel
theorem dX11_conjugates_8 : decode cX11_conjugates 8 = .ok (.iload_n 1, 1) := by decide +kernel
theorem dX11_conjugates_9 : decode cX11_conjugates 9 = .ok (.invokevirtual 197, 3) := by decide +kernel
theorem dX11_conjugates_12 : decode cX11_conjugates 12 = .ok (.aload_n 0, 1) := by decide +kernel
theorem dX11_conjugates_13 : decode cX11_conjugates 13 = .ok (.iload_n 3, 1) := by decide +kernel
theorem dX11_conjugates_14 : decode cX11_conjugates 14 = .ok (.iload_n 2, 1) := by decide +kernel
theorem dX11_conjugates_15 : decode cX11_conjugates 15 = .ok (.invokevirtual 197, 3) := by decide +kernel
theorem dX11_conjugates_18 : decode cX11_conjugates 18 = .ok (.return_, 1) := by decide +kernel
theorem dX11_isElement_0 : decode cX11_isElement 0 = .ok (.iconst 0, 1) := by decide +kernel
theorem dX11_isElement_1 : decode cX11_isElement 1 = .ok (.istore_n 2, 1) := by decide +kernel
theorem dX11_isElement_2 : decode cX11_isElement 2 = .ok (.iload_n 2, 1) := by decide +kernel
theorem dX11_isElement_3 : decode cX11_isElement 3 = .ok (.aload_n 0, 1) := by decide +kernel
theorem dX11_isElement_4 : decode cX11_isElement 4 = .ok (.invokevirtual 88, 3) := by decide +kernel
theorem dX11_isElement_7 : decode cX11_isElement 7 = .ok (.if_icmp .ge 30, 3) := by decide +kernel
theorem dX11_isElement_10 : decode cX11_isElement 10 = .ok (.aload_n 0, 1) := by decide +kernel
theorem dX11_isElement_11 : decode cX11_isElement 11 = .ok (.aload_n 0, 1) := by decide +kernel
theorem dX11_isElement_12 : decode cX11_isElement 12 = .ok (.iload_n 1, 1) := by decide +kernel
theorem dX11_isElement_13 : decode cX11_isElement 13 = .ok (.iload_n 2, 1) := by decide +kernel
theorem dX11_isElement_14 : decode cX11_isElement 14 = .ok (.invokevirtual 166, 3) := by decide +kernel
theorem dX11_isElement_17 : decode cX11_isElement 17 = .ok (.ldc2_w 203, 3) := by decide +kernel
theorem dX11_isElement_20 : decode cX11_isElement 20 = .ok (.ldc2_w 205, 3) := by decide +kernel
theorem dX11_isElement_23 : decode cX11_isElement 23 = .ok (.invokevirtual 101, 3) := by decide +kernel
theorem dX11_isElement_26 : decode cX11_isElement 26 = .ok (.ifCond .ne 5, 3) := by decide +kernel
theorem dX11_isElement_29 : decode cX11_isElement 29 = .ok (.iconst 0, 1) := by decide +kernel
theorem dX11_isElement_30 : decode cX11_isElement 30 = .ok (.ireturn, 1) := by decide +kernel
theorem dX11_isElement_31 : decode cX11_isElement 31 = .ok (.iinc 2 1, 3) := by decide +kernel
theorem dX11_isElement_34 : decode cX11_isElement 34 = .ok (.goto (-32), 3) := by decide +kernel
theorem dX11_isElement_37 : decode cX11_isElement 37 = .ok (.iconst 1, 1) := by decide +kernel
theorem dX11_isElement_38 : decode cX11_isElement 38 = .ok (.ireturn, 1) := by decide +kernel
theorem dX11_isOne_0 : decode cX11_isOne 0 = .ok (.iconst 0, 1) := by decide +kernel
theorem dX11_isOne_1 : decode cX11_isOne 1 = .ok (.istore_n 2, 1) := by decide +kernel
theorem dX11_isOne_2 : decode cX11_isOne 2 = .ok (.iload_n 2, 1) := by decide +kernel
theorem dX11_isOne_3 : decode cX11_isOne 3 = .ok (.aload_n 0, 1) := by decide +kernel
theorem dX11_isOne_4 : decode cX11_isOne 4 = .ok (.invokevirtual 88, 3) := by decide +kernel
theorem dX11_isOne_7 : decode cX11_isOne 7 = .ok (.if_icmp .ge 22, 3) := by decide +kernel
theorem dX11_isOne_10 : decode cX11_isOne 10 = .ok (.aload_n 0, 1) := by decide +kernel
theorem dX11_isOne_11 : decode cX11_isOne 11 = .ok (.iload_n 1, 1) := by decide +kernel
theorem dX11_isOne_12 : decode cX11_isOne 12 = .ok (.iload_n 2, 1) := by decide +kernel
theorem dX11_isOne_13 : decode cX11_isOne 13 = .ok (.invokevirtual 166, 3) := by decide +kernel
theorem dX11_isOne_16 : decode cX11_isOne 16 = .ok (.lconst 0, 1) := by decide +kernel
theorem dX11_isOne_17 : decode cX11_isOne 17 = .ok (.lcmp, 1) := by decide +kernel
theorem dX11_isOne_18 : decode cX11_isOne 18 = .ok (.ifCond .eq 5, 3) := by decide +kernel
theorem dX11_isOne_21 : decode cX11_isOne 21 = .ok (.iconst 0, 1) := by decide +kernel
theorem dX11_isOne_22 : decode cX11_isOne 22 = .ok (.ireturn, 1) := by decide +kernel
theorem dX11_isOne_23 : decode cX11_isOne 23 = .ok (.iinc 2 1, 3) := by decide +kernel
theorem dX11_isOne_26 : decode cX11_isOne 26 = .ok (.goto (-24), 3) := by decide +kernel
theorem dX11_isOne_29 : decode cX11_isOne 29 = .ok (.iconst 1, 1) := by decide +kernel
theorem dX11_isOne_30 : decode cX11_isOne 30 = .ok (.ireturn, 1) := by decide +kernel
theorem dX11_areSame_0 : decode cX11_areSame 0 = .ok (.iconst 0, 1) := by decide +kernel
theorem dX11_areSame_1 : decode cX11_areSame 1 = .ok (.istore_n 3, 1) := by decide +kernel
theorem dX11_areSame_2 : decode cX11_areSame 2 = .ok (.iload_n 3, 1) := by decide +kernel
theorem dX11_areSame_3 : decode cX11_areSame 3 = .ok (.aload_n 0, 1) := by decide +kernel
theorem dX11_areSame_4 : decode cX11_areSame 4 = .ok (.invokevirtual 88, 3) := by decide +kernel
theorem dX11_areSame_7 : decode cX11_areSame 7 = .ok (.if_icmp .ge 27, 3) := by decide +kernel
theorem dX11_areSame_10 : decode cX11_areSame 10 = .ok (.aload_n 0, 1) := by decide +kernel
theorem dX11_areSame_11 : decode cX11_areSame 11 = .ok (.iload_n 1, 1) := by decide +kernel
theorem dX11_areSame_12 : decode cX11_areSame 12 = .ok (.iload_n 3, 1) := by decide +kernel
theorem dX11_areSame_13 : decode cX11_areSame 13 = .ok (.invokevirtual 166, 3) := by decide +kernel
theorem dX11_areSame_16 : decode cX11_areSame 16 = .ok (.aload_n 0, 1) := by decide +kernel
theorem dX11_areSame_17 : decode cX11_areSame 17 = .ok (.iload_n 2, 1) := by decide +kernel
theorem dX11_areSame_18 : decode cX11_areSame 18 = .ok (.iload_n 3, 1) := by decide +kernel
theorem dX11_areSame_19 : decode cX11_areSame 19 = .ok (.invokevirtual 166, 3) := by decide +kernel
theorem dX11_areSame_22 : decode cX11_areSame 22 = .ok (.lcmp, 1) := by decide +kernel
theorem dX11_areSame_23 : decode cX11_areSame 23 = .ok (.ifCond .eq 5, 3) := by decide +kernel
theorem dX11_areSame_26 : decode cX11_areSame 26 = .ok (.iconst 0, 1) := by decide +kernel
theorem dX11_areSame_27 : decode cX11_areSame 27 = .ok (.ireturn, 1) := by decide +kernel
theorem dX11_areSame_28 : decode cX11_areSame 28 = .ok (.iinc 3 1, 3) := by decide +kernel
theorem dX11_areSame_31 : decode cX11_areSame 31 = .ok (.goto (-29), 3) := by decide +kernel
theorem dX11_areSame_34 : decode cX11_areSame 34 = .ok (.iconst 1, 1) := by decide +kernel
theorem dX11_areSame_35 : decode cX11_areSame 35 = .ok (.ireturn, 1) := by decide +kernel
theorem dX11_weightOf_0 : decode cX11_weightOf 0 = .ok (.aload_n 0, 1) := by decide +kernel
theorem dX11_weightOf_1 : decode cX11_weightOf 1 = .ok (.iload_n 1, 1) := by decide +kernel
theorem dX11_weightOf_2 : decode cX11_weightOf 2 = .ok (.aload_n 0, 1) := by decide +kernel
theorem dX11_weightOf_3 : decode cX11_weightOf 3 = .ok (.invokevirtual 88, 3) := by decide +kernel
theorem dX11_weightOf_6 : decode cX11_weightOf 6 = .ok (.irem, 1) := by decide +kernel
theorem dX11_weightOf_7 : decode cX11_weightOf 7 = .ok (.invokevirtual 92, 3) := by decide +kernel
theorem dX11_weightOf_10 : decode cX11_weightOf 10 = .ok (.ireturn, 1) := by decide +kernel
theorem dX11_laysTerms_0 : decode cX11_laysTerms 0 = .ok (.aload_n 0, 1) := by decide +kernel
theorem dX11_laysTerms_1 : decode cX11_laysTerms 1 = .ok (.iload_n 1, 1) := by decide +kernel
theorem dX11_laysTerms_2 : decode cX11_laysTerms 2 = .ok (.iconst 0, 1) := by decide +kernel
theorem dX11_laysTerms_3 : decode cX11_laysTerms 3 = .ok (.aload_n 0, 1) := by decide +kernel
theorem dX11_laysTerms_4 : decode cX11_laysTerms 4 = .ok (.iload_n 1, 1) := by decide +kernel
theorem dX11_laysTerms_5 : decode cX11_laysTerms 5 = .ok (.invokevirtual 92, 3) := by decide +kernel
theorem dX11_laysTerms_8 : decode cX11_laysTerms 8 = .ok (.invokevirtual 207, 3) := by decide +kernel
theorem dX11_laysTerms_11 : decode cX11_laysTerms 11 = .ok (.return_, 1) := by decide +kernel
theorem dX11_rows_0 : decode cX11_rows 0 = .ok (.iload_n 2, 1) := by decide +kernel
theorem dX11_rows_1 : decode cX11_rows 1 = .ok (.iconst 2, 1) := by decide +kernel
theorem dX11_rows_2 : decode cX11_rows 2 = .ok (.aload_n 0, 1) := by decide +kernel
theorem dX11_rows_3 : decode cX11_rows 3 = .ok (.invokevirtual 88, 3) := by decide +kernel
theorem dX11_rows_6 : decode cX11_rows 6 = .ok (.imul, 1) := by decide +kernel
theorem dX11_rows_7 : decode cX11_rows 7 = .ok (.if_icmp .ne 101, 3) := by decide +kernel
theorem dX11_rows_10 : decode cX11_rows 10 = .ok (.aload_n 0, 1) := by decide +kernel
theorem dX11_rows_11 : decode cX11_rows 11 = .ok (.iload_n 1, 1) := by decide +kernel
theorem dX11_rows_12 : decode cX11_rows 12 = .ok (.iconst 0, 1) := by decide +kernel
theorem dX11_rows_13 : decode cX11_rows 13 = .ok (.lconst 1, 1) := by decide +kernel
theorem dX11_rows_14 : decode cX11_rows 14 = .ok (.invokevirtual 211, 3) := by decide +kernel
theorem dX11_rows_17 : decode cX11_rows 17 = .ok (.lstore 4, 2) := by decide +kernel
theorem dX11_rows_19 : decode cX11_rows 19 = .ok (.lload 4, 2) := by decide +kernel
theorem dX11_rows_21 : decode cX11_rows 21 = .ok (.lconst 0, 1) := by decide +kernel
theorem dX11_rows_22 : decode cX11_rows 22 = .ok (.lcmp, 1) := by decide +kernel
theorem dX11_rows_23 : decode cX11_rows 23 = .ok (.ifCond .ne 4, 3) := by decide +kernel
theorem dX11_rows_26 : decode cX11_rows 26 = .ok (.return_, 1) := by decide +kernel
theorem dX11_rows_27 : decode cX11_rows 27 = .ok (.sipush 9100, 3) := by decide +kernel
theorem dX11_rows_30 : decode cX11_rows 30 = .ok (.iload_n 1, 1) := by decide +kernel
theorem dX11_rows_31 : decode cX11_rows 31 = .ok (.imul, 1) := by decide +kernel
theorem dX11_rows_32 : decode cX11_rows 32 = .ok (.bipush 13, 2) := by decide +kernel
theorem dX11_rows_34 : decode cX11_rows 34 = .ok (.aload_n 0, 1) := by decide +kernel
theorem dX11_rows_35 : decode cX11_rows 35 = .ok (.getfield 26, 3) := by decide +kernel
theorem dX11_rows_38 : decode cX11_rows 38 = .ok (.iload_n 1, 1) := by decide +kernel
theorem dX11_rows_39 : decode cX11_rows 39 = .ok (.iaload, 1) := by decide +kernel
theorem dX11_rows_40 : decode cX11_rows 40 = .ok (.imul, 1) := by decide +kernel
theorem dX11_rows_41 : decode cX11_rows 41 = .ok (.iadd, 1) := by decide +kernel
theorem dX11_rows_42 : decode cX11_rows 42 = .ok (.istore 6, 2) := by decide +kernel
theorem dX11_rows_44 : decode cX11_rows 44 = .ok (.aload_n 0, 1) := by decide +kernel
theorem dX11_rows_45 : decode cX11_rows 45 = .ok (.getfield 30, 3) := by decide +kernel
theorem dX11_rows_48 : decode cX11_rows 48 = .ok (.iload 6, 2) := by decide +kernel
theorem dX11_rows_50 : decode cX11_rows 50 = .ok (.lload 4, 2) := by decide +kernel
theorem dX11_rows_52 : decode cX11_rows 52 = .ok (.lastore, 1) := by decide +kernel
theorem dX11_rows_53 : decode cX11_rows 53 = .ok (.iconst 0, 1) := by decide +kernel
theorem dX11_rows_54 : decode cX11_rows 54 = .ok (.istore 7, 2) := by decide +kernel
theorem dX11_rows_56 : decode cX11_rows 56 = .ok (.iload 7, 2) := by decide +kernel
theorem dX11_rows_58 : decode cX11_rows 58 = .ok (.iconst 2, 1) := by decide +kernel
theorem dX11_rows_59 : decode cX11_rows 59 = .ok (.aload_n 0, 1) := by decide +kernel
theorem dX11_rows_60 : decode cX11_rows 60 = .ok (.invokevirtual 88, 3) := by decide +kernel
theorem dX11_rows_63 : decode cX11_rows 63 = .ok (.imul, 1) := by decide +kernel
theorem dX11_rows_64 : decode cX11_rows 64 = .ok (.if_icmp .ge 29, 3) := by decide +kernel
theorem dX11_rows_67 : decode cX11_rows 67 = .ok (.aload_n 0, 1) := by decide +kernel
theorem dX11_rows_68 : decode cX11_rows 68 = .ok (.getfield 30, 3) := by decide +kernel
theorem dX11_rows_71 : decode cX11_rows 71 = .ok (.iload 6, 2) := by decide +kernel
theorem dX11_rows_73 : decode cX11_rows 73 = .ok (.iconst 1, 1) := by decide +kernel
theorem dX11_rows_74 : decode cX11_rows 74 = .ok (.iadd, 1) := by decide +kernel
theorem dX11_rows_75 : decode cX11_rows 75 = .ok (.iload 7, 2) := by decide +kernel
theorem dX11_rows_77 : decode cX11_rows 77 = .ok (.iadd, 1) := by decide +kernel
theorem dX11_rows_78 : decode cX11_rows 78 = .ok (.aload_n 0, 1) := by decide +kernel
theorem dX11_rows_79 : decode cX11_rows 79 = .ok (.getfield 40, 3) := by decide +kernel
theorem dX11_rows_82 : decode cX11_rows 82 = .ok (.iload 7, 2) := by decide +kernel
theorem dX11_rows_84 : decode cX11_rows 84 = .ok (.iaload, 1) := by decide +kernel
theorem dX11_rows_85 : decode cX11_rows 85 = .ok (.i2l, 1) := by decide +kernel
theorem dX11_rows_86 : decode cX11_rows 86 = .ok (.lastore, 1) := by decide +kernel
theorem dX11_rows_87 : decode cX11_rows 87 = .ok (.iinc 7 1, 3) := by decide +kernel
theorem dX11_rows_90 : decode cX11_rows 90 = .ok (.goto (-34), 3) := by decide +kernel
theorem dX11_rows_93 : decode cX11_rows 93 = .ok (.aload_n 0, 1) := by decide +kernel
theorem dX11_rows_94 : decode cX11_rows 94 = .ok (.getfield 26, 3) := by decide +kernel
theorem dX11_rows_97 : decode cX11_rows 97 = .ok (.iload_n 1, 1) := by decide +kernel
theorem dX11_rows_98 : decode cX11_rows 98 = .ok (.aload_n 0, 1) := by decide +kernel
theorem dX11_rows_99 : decode cX11_rows 99 = .ok (.getfield 26, 3) := by decide +kernel
theorem dX11_rows_102 : decode cX11_rows 102 = .ok (.iload_n 1, 1) := by decide +kernel
theorem dX11_rows_103 : decode cX11_rows 103 = .ok (.iaload, 1) := by decide +kernel
theorem dX11_rows_104 : decode cX11_rows 104 = .ok (.iconst 1, 1) := by decide +kernel
theorem dX11_rows_105 : decode cX11_rows 105 = .ok (.iadd, 1) := by decide +kernel
theorem dX11_rows_106 : decode cX11_rows 106 = .ok (.iastore, 1) := by decide +kernel
theorem dX11_rows_107 : decode cX11_rows 107 = .ok (.return_, 1) := by decide +kernel
theorem dX11_rows_108 : decode cX11_rows 108 = .ok (.iconst 0, 1) := by decide +kernel
theorem dX11_rows_109 : decode cX11_rows 109 = .ok (.istore 4, 2) := by decide +kernel
theorem dX11_rows_111 : decode cX11_rows 111 = .ok (.iload 4, 2) := by decide +kernel
theorem dX11_rows_113 : decode cX11_rows 113 = .ok (.aload_n 0, 1) := by decide +kernel
theorem dX11_rows_114 : decode cX11_rows 114 = .ok (.iload_n 2, 1) := by decide +kernel
theorem dX11_rows_115 : decode cX11_rows 115 = .ok (.invokevirtual 215, 3) := by decide +kernel
theorem dX11_rows_118 : decode cX11_rows 118 = .ok (.imul, 1) := by decide +kernel
theorem dX11_rows_119 : decode cX11_rows 119 = .ok (.iload_n 3, 1) := by decide +kernel
theorem dX11_rows_120 : decode cX11_rows 120 = .ok (.if_icmp .gt 35, 3) := by decide +kernel
theorem dX11_rows_123 : decode cX11_rows 123 = .ok (.aload_n 0, 1) := by decide +kernel
theorem dX11_rows_124 : decode cX11_rows 124 = .ok (.getfield 40, 3) := by decide +kernel
theorem dX11_rows_127 : decode cX11_rows 127 = .ok (.iload_n 2, 1) := by decide +kernel
theorem dX11_rows_128 : decode cX11_rows 128 = .ok (.iload 4, 2) := by decide +kernel
theorem dX11_rows_130 : decode cX11_rows 130 = .ok (.iastore, 1) := by decide +kernel
theorem dX11_rows_131 : decode cX11_rows 131 = .ok (.aload_n 0, 1) := by decide +kernel
theorem dX11_rows_132 : decode cX11_rows 132 = .ok (.iload_n 1, 1) := by decide +kernel
theorem dX11_rows_133 : decode cX11_rows 133 = .ok (.iload_n 2, 1) := by decide +kernel
theorem dX11_rows_134 : decode cX11_rows 134 = .ok (.iconst 1, 1) := by decide +kernel
theorem dX11_rows_135 : decode cX11_rows 135 = .ok (.iadd, 1) := by decide +kernel
theorem dX11_rows_136 : decode cX11_rows 136 = .ok (.iload_n 3, 1) := by decide +kernel
theorem dX11_rows_137 : decode cX11_rows 137 = .ok (.iload 4, 2) := by decide +kernel
theorem dX11_rows_139 : decode cX11_rows 139 = .ok (.aload_n 0, 1) := by decide +kernel
theorem dX11_rows_140 : decode cX11_rows 140 = .ok (.iload_n 2, 1) := by decide +kernel
theorem dX11_rows_141 : decode cX11_rows 141 = .ok (.invokevirtual 215, 3) := by decide +kernel
theorem dX11_rows_144 : decode cX11_rows 144 = .ok (.imul, 1) := by decide +kernel
theorem dX11_rows_145 : decode cX11_rows 145 = .ok (.isub, 1) := by decide +kernel
theorem dX11_rows_146 : decode cX11_rows 146 = .ok (.invokevirtual 207, 3) := by decide +kernel
theorem dX11_rows_149 : decode cX11_rows 149 = .ok (.iinc 4 1, 3) := by decide +kernel
theorem dX11_rows_152 : decode cX11_rows 152 = .ok (.goto (-41), 3) := by decide +kernel
theorem dX11_rows_155 : decode cX11_rows 155 = .ok (.aload_n 0, 1) := by decide +kernel
theorem dX11_rows_156 : decode cX11_rows 156 = .ok (.getfield 40, 3) := by decide +kernel
theorem dX11_rows_159 : decode cX11_rows 159 = .ok (.iload_n 2, 1) := by decide +kernel
theorem dX11_rows_160 : decode cX11_rows 160 = .ok (.iconst 0, 1) := by decide +kernel
theorem dX11_rows_161 : decode cX11_rows 161 = .ok (.iastore, 1) := by decide +kernel
theorem dX11_rows_162 : decode cX11_rows 162 = .ok (.return_, 1) := by decide +kernel
theorem dX11_choose_0 : decode cX11_choose 0 = .ok (.lconst 1, 1) := by decide +kernel
theorem dX11_choose_1 : decode cX11_choose 1 = .ok (.lstore_n 3, 1) := by decide +kernel
theorem dX11_choose_2 : decode cX11_choose 2 = .ok (.iconst 0, 1) := by decide +kernel
theorem dX11_choose_3 : decode cX11_choose 3 = .ok (.istore 5, 2) := by decide +kernel
theorem dX11_choose_5 : decode cX11_choose 5 = .ok (.iload 5, 2) := by decide +kernel
theorem dX11_choose_7 : decode cX11_choose 7 = .ok (.iload_n 2, 1) := by decide +kernel
theorem dX11_choose_8 : decode cX11_choose 8 = .ok (.if_icmp .ge 23, 3) := by decide +kernel
theorem dX11_choose_11 : decode cX11_choose 11 = .ok (.lload_n 3, 1) := by decide +kernel
theorem dX11_choose_12 : decode cX11_choose 12 = .ok (.iload_n 1, 1) := by decide +kernel
theorem dX11_choose_13 : decode cX11_choose 13 = .ok (.iload 5, 2) := by decide +kernel
theorem dX11_choose_15 : decode cX11_choose 15 = .ok (.isub, 1) := by decide +kernel
theorem dX11_choose_16 : decode cX11_choose 16 = .ok (.i2l, 1) := by decide +kernel
theorem dX11_choose_17 : decode cX11_choose 17 = .ok (.lmul, 1) := by decide +kernel
theorem dX11_choose_18 : decode cX11_choose 18 = .ok (.iload 5, 2) := by decide +kernel
theorem dX11_choose_20 : decode cX11_choose 20 = .ok (.iconst 1, 1) := by decide +kernel
theorem dX11_choose_21 : decode cX11_choose 21 = .ok (.iadd, 1) := by decide +kernel
theorem dX11_choose_22 : decode cX11_choose 22 = .ok (.i2l, 1) := by decide +kernel
theorem dX11_choose_23 : decode cX11_choose 23 = .ok (.ldiv, 1) := by decide +kernel
theorem dX11_choose_24 : decode cX11_choose 24 = .ok (.lstore_n 3, 1) := by decide +kernel
theorem dX11_choose_25 : decode cX11_choose 25 = .ok (.iinc 5 1, 3) := by decide +kernel
theorem dX11_choose_28 : decode cX11_choose 28 = .ok (.goto (-23), 3) := by decide +kernel
theorem dX11_choose_31 : decode cX11_choose 31 = .ok (.lload_n 3, 1) := by decide +kernel
theorem dX11_choose_32 : decode cX11_choose 32 = .ok (.lreturn, 1) := by decide +kernel
theorem dX11_difference_0 : decode cX11_difference 0 = .ok (.iload_n 2, 1) := by decide +kernel
theorem dX11_difference_1 : decode cX11_difference 1 = .ok (.iconst 2, 1) := by decide +kernel
theorem dX11_difference_2 : decode cX11_difference 2 = .ok (.aload_n 0, 1) := by decide +kernel
theorem dX11_difference_3 : decode cX11_difference 3 = .ok (.invokevirtual 88, 3) := by decide +kernel
theorem dX11_difference_6 : decode cX11_difference 6 = .ok (.imul, 1) := by decide +kernel
theorem dX11_difference_7 : decode cX11_difference 7 = .ok (.if_icmp .ne 100, 3) := by decide +kernel
theorem dX11_difference_10 : decode cX11_difference 10 = .ok (.iconst 0, 1) := by decide +kernel
theorem dX11_difference_11 : decode cX11_difference 11 = .ok (.istore 5, 2) := by decide +kernel
theorem dX11_difference_13 : decode cX11_difference 13 = .ok (.iload 5, 2) := by decide +kernel
theorem dX11_difference_15 : decode cX11_difference 15 = .ok (.bipush 6, 2) := by decide +kernel
theorem dX11_difference_17 : decode cX11_difference 17 = .ok (.if_icmp .ge 72, 3) := by decide +kernel
theorem dX11_difference_20 : decode cX11_difference 20 = .ok (.aload_n 0, 1) := by decide +kernel
theorem dX11_difference_21 : decode cX11_difference 21 = .ok (.bipush 90, 2) := by decide +kernel
theorem dX11_difference_23 : decode cX11_difference 23 = .ok (.iload 5, 2) := by decide +kernel
theorem dX11_difference_25 : decode cX11_difference 25 = .ok (.iload 5, 2) := by decide +kernel
theorem dX11_difference_27 : decode cX11_difference 27 = .ok (.aload_n 0, 1) := by decide +kernel
theorem dX11_difference_28 : decode cX11_difference 28 = .ok (.invokevirtual 88, 3) := by decide +kernel
theorem dX11_difference_31 : decode cX11_difference 31 = .ok (.if_icmp .ge 14, 3) := by decide +kernel
theorem dX11_difference_34 : decode cX11_difference 34 = .ok (.aload_n 0, 1) := by decide +kernel
theorem dX11_difference_35 : decode cX11_difference 35 = .ok (.getfield 43, 3) := by decide +kernel
theorem dX11_difference_38 : decode cX11_difference 38 = .ok (.iload 5, 2) := by decide +kernel
theorem dX11_difference_40 : decode cX11_difference 40 = .ok (.iaload, 1) := by decide +kernel
theorem dX11_difference_41 : decode cX11_difference 41 = .ok (.i2l, 1) := by decide +kernel
theorem dX11_difference_42 : decode cX11_difference 42 = .ok (.goto 4, 3) := by decide +kernel
theorem dX11_difference_45 : decode cX11_difference 45 = .ok (.lconst 0, 1) := by decide +kernel
theorem dX11_difference_46 : decode cX11_difference 46 = .ok (.invokevirtual 162, 3) := by decide +kernel
theorem dX11_difference_49 : decode cX11_difference 49 = .ok (.aload_n 0, 1) := by decide +kernel
theorem dX11_difference_50 : decode cX11_difference 50 = .ok (.bipush 91, 2) := by decide +kernel
theorem dX11_difference_52 : decode cX11_difference 52 = .ok (.iload 5, 2) := by decide +kernel
theorem dX11_difference_54 : decode cX11_difference 54 = .ok (.iload 5, 2) := by decide +kernel
theorem dX11_difference_56 : decode cX11_difference 56 = .ok (.aload_n 0, 1) := by decide +kernel
theorem dX11_difference_57 : decode cX11_difference 57 = .ok (.invokevirtual 88, 3) := by decide +kernel
theorem dX11_difference_60 : decode cX11_difference 60 = .ok (.if_icmp .ge 19, 3) := by decide +kernel
theorem dX11_difference_63 : decode cX11_difference 63 = .ok (.aload_n 0, 1) := by decide +kernel
theorem dX11_difference_64 : decode cX11_difference 64 = .ok (.getfield 43, 3) := by decide +kernel
theorem dX11_difference_67 : decode cX11_difference 67 = .ok (.aload_n 0, 1) := by decide +kernel
theorem dX11_difference_68 : decode cX11_difference 68 = .ok (.invokevirtual 88, 3) := by decide +kernel
theorem dX11_difference_71 : decode cX11_difference 71 = .ok (.iload 5, 2) := by decide +kernel
theorem dX11_difference_73 : decode cX11_difference 73 = .ok (.iadd, 1) := by decide +kernel
theorem dX11_difference_74 : decode cX11_difference 74 = .ok (.iaload, 1) := by decide +kernel
theorem dX11_difference_75 : decode cX11_difference 75 = .ok (.i2l, 1) := by decide +kernel
theorem dX11_difference_76 : decode cX11_difference 76 = .ok (.goto 4, 3) := by decide +kernel
theorem dX11_difference_79 : decode cX11_difference 79 = .ok (.lconst 0, 1) := by decide +kernel
theorem dX11_difference_80 : decode cX11_difference 80 = .ok (.invokevirtual 162, 3) := by decide +kernel
theorem dX11_difference_83 : decode cX11_difference 83 = .ok (.iinc 5 1, 3) := by decide +kernel
theorem dX11_difference_86 : decode cX11_difference 86 = .ok (.goto (-73), 3) := by decide +kernel
theorem dX11_difference_89 : decode cX11_difference 89 = .ok (.aload_n 0, 1) := by decide +kernel
theorem dX11_difference_90 : decode cX11_difference 90 = .ok (.bipush 90, 2) := by decide +kernel
theorem dX11_difference_92 : decode cX11_difference 92 = .ok (.bipush 91, 2) := by decide +kernel
theorem dX11_difference_94 : decode cX11_difference 94 = .ok (.invokevirtual 197, 3) := by decide +kernel
theorem dX11_difference_97 : decode cX11_difference 97 = .ok (.lload_n 3, 1) := by decide +kernel
theorem dX11_difference_98 : decode cX11_difference 98 = .ok (.aload_n 0, 1) := by decide +kernel
theorem dX11_difference_99 : decode cX11_difference 99 = .ok (.bipush 90, 2) := by decide +kernel
theorem dX11_difference_101 : decode cX11_difference 101 = .ok (.iload_n 1, 1) := by decide +kernel
theorem dX11_difference_102 : decode cX11_difference 102 = .ok (.invokevirtual 166, 3) := by decide +kernel
theorem dX11_difference_105 : decode cX11_difference 105 = .ok (.lmul, 1) := by decide +kernel
theorem dX11_difference_106 : decode cX11_difference 106 = .ok (.lreturn, 1) := by decide +kernel
theorem dX11_difference_107 : decode cX11_difference 107 = .ok (.lconst 0, 1) := by decide +kernel
theorem dX11_difference_108 : decode cX11_difference 108 = .ok (.lstore 5, 2) := by decide +kernel
theorem dX11_difference_110 : decode cX11_difference 110 = .ok (.aload_n 0, 1) := by decide +kernel
theorem dX11_difference_111 : decode cX11_difference 111 = .ok (.getfield 40, 3) := by decide +kernel
theorem dX11_difference_114 : decode cX11_difference 114 = .ok (.iload_n 2, 1) := by decide +kernel
theorem dX11_difference_115 : decode cX11_difference 115 = .ok (.iaload, 1) := by decide +kernel
theorem dX11_difference_116 : decode cX11_difference 116 = .ok (.istore 7, 2) := by decide +kernel
theorem dX11_difference_118 : decode cX11_difference 118 = .ok (.iconst 0, 1) := by decide +kernel
theorem dX11_difference_119 : decode cX11_difference 119 = .ok (.istore 8, 2) := by decide +kernel
theorem dX11_difference_121 : decode cX11_difference 121 = .ok (.iload 8, 2) := by decide +kernel
theorem dX11_difference_123 : decode cX11_difference 123 = .ok (.iload 7, 2) := by decide +kernel
theorem dX11_difference_125 : decode cX11_difference 125 = .ok (.if_icmp .gt 58, 3) := by decide +kernel
theorem dX11_difference_128 : decode cX11_difference 128 = .ok (.aload_n 0, 1) := by decide +kernel
theorem dX11_difference_129 : decode cX11_difference 129 = .ok (.getfield 43, 3) := by decide +kernel
theorem dX11_difference_132 : decode cX11_difference 132 = .ok (.iload_n 2, 1) := by decide +kernel
theorem dX11_difference_133 : decode cX11_difference 133 = .ok (.iload 8, 2) := by decide +kernel
theorem dX11_difference_135 : decode cX11_difference 135 = .ok (.iastore, 1) := by decide +kernel
theorem dX11_difference_136 : decode cX11_difference 136 = .ok (.lload 5, 2) := by decide +kernel
theorem dX11_difference_138 : decode cX11_difference 138 = .ok (.aload_n 0, 1) := by decide +kernel
theorem dX11_difference_139 : decode cX11_difference 139 = .ok (.iload_n 1, 1) := by decide +kernel
theorem dX11_difference_140 : decode cX11_difference 140 = .ok (.iload_n 2, 1) := by decide +kernel
theorem dX11_difference_141 : decode cX11_difference 141 = .ok (.iconst 1, 1) := by decide +kernel
theorem dX11_difference_142 : decode cX11_difference 142 = .ok (.iadd, 1) := by decide +kernel
theorem dX11_difference_143 : decode cX11_difference 143 = .ok (.lload_n 3, 1) := by decide +kernel
theorem dX11_difference_144 : decode cX11_difference 144 = .ok (.aload_n 0, 1) := by decide +kernel
theorem dX11_difference_145 : decode cX11_difference 145 = .ok (.iload 7, 2) := by decide +kernel
theorem dX11_difference_147 : decode cX11_difference 147 = .ok (.iload 8, 2) := by decide +kernel
theorem dX11_difference_149 : decode cX11_difference 149 = .ok (.invokevirtual 218, 3) := by decide +kernel
theorem dX11_difference_152 : decode cX11_difference 152 = .ok (.lmul, 1) := by decide +kernel
theorem dX11_difference_153 : decode cX11_difference 153 = .ok (.iload 7, 2) := by decide +kernel
theorem dX11_difference_155 : decode cX11_difference 155 = .ok (.iload 8, 2) := by decide +kernel
theorem dX11_difference_157 : decode cX11_difference 157 = .ok (.isub, 1) := by decide +kernel
theorem dX11_difference_158 : decode cX11_difference 158 = .ok (.iconst 2, 1) := by decide +kernel
theorem dX11_difference_159 : decode cX11_difference 159 = .ok (.irem, 1) := by decide +kernel
theorem dX11_difference_160 : decode cX11_difference 160 = .ok (.ifCond .ne 7, 3) := by decide +kernel
theorem dX11_difference_163 : decode cX11_difference 163 = .ok (.lconst 1, 1) := by decide +kernel
theorem dX11_difference_164 : decode cX11_difference 164 = .ok (.goto 6, 3) := by decide +kernel
theorem dX11_difference_167 : decode cX11_difference 167 = .ok (.ldc2_w 221, 3) := by decide +kernel
theorem dX11_difference_170 : decode cX11_difference 170 = .ok (.lmul, 1) := by decide +kernel
theorem dX11_difference_171 : decode cX11_difference 171 = .ok (.invokevirtual 211, 3) := by decide +kernel
theorem dX11_difference_174 : decode cX11_difference 174 = .ok (.ladd, 1) := by decide +kernel
theorem dX11_difference_175 : decode cX11_difference 175 = .ok (.lstore 5, 2) := by decide +kernel
theorem dX11_difference_177 : decode cX11_difference 177 = .ok (.iinc 8 1, 3) := by decide +kernel
theorem dX11_difference_180 : decode cX11_difference 180 = .ok (.goto (-59), 3) := by decide +kernel
theorem dX11_difference_183 : decode cX11_difference 183 = .ok (.lload 5, 2) := by decide +kernel
theorem dX11_difference_185 : decode cX11_difference 185 = .ok (.lreturn, 1) := by decide +kernel
theorem dX11_isRegister_0 : decode cX11_isRegister 0 = .ok (.aload_n 0, 1) := by decide +kernel
theorem dX11_isRegister_1 : decode cX11_isRegister 1 = .ok (.iload_n 1, 1) := by decide +kernel
theorem dX11_isRegister_2 : decode cX11_isRegister 2 = .ok (.i2l, 1) := by decide +kernel
theorem dX11_isRegister_3 : decode cX11_isRegister 3 = .ok (.lconst 0, 1) := by decide +kernel
theorem dX11_isRegister_4 : decode cX11_isRegister 4 = .ok (.ldc2_w 223, 3) := by decide +kernel
theorem dX11_isRegister_7 : decode cX11_isRegister 7 = .ok (.invokevirtual 101, 3) := by decide +kernel
theorem dX11_isRegister_10 : decode cX11_isRegister 10 = .ok (.ireturn, 1) := by decide +kernel
theorem dX11_gives_0 : decode cX11_gives 0 = .ok (.aload_n 0, 1) := by decide +kernel
theorem dX11_gives_1 : decode cX11_gives 1 = .ok (.iload_n 2, 1) := by decide +kernel
theorem dX11_gives_2 : decode cX11_gives 2 = .ok (.invokevirtual 225, 3) := by decide +kernel
theorem dX11_gives_5 : decode cX11_gives 5 = .ok (.ifCond .ne 15, 3) := by decide +kernel
theorem dX11_gives_8 : decode cX11_gives 8 = .ok (.aload_n 0, 1) := by decide +kernel
theorem dX11_gives_9 : decode cX11_gives 9 = .ok (.aload_n 0, 1) := by decide +kernel
theorem dX11_gives_10 : decode cX11_gives 10 = .ok (.getfield 229, 3) := by decide +kernel
theorem dX11_gives_13 : decode cX11_gives 13 = .ok (.iconst 1, 1) := by decide +kernel
theorem dX11_gives_14 : decode cX11_gives 14 = .ok (.iadd, 1) := by decide +kernel
theorem dX11_gives_15 : decode cX11_gives 15 = .ok (.putfield 229, 3) := by decide +kernel
theorem dX11_gives_18 : decode cX11_gives 18 = .ok (.iconst 0, 1) := by decide +kernel
theorem dX11_gives_19 : decode cX11_gives 19 = .ok (.ireturn, 1) := by decide +kernel
theorem dX11_gives_20 : decode cX11_gives 20 = .ok (.aload_n 0, 1) := by decide +kernel
theorem dX11_gives_21 : decode cX11_gives 21 = .ok (.invokevirtual 109, 3) := by decide +kernel
theorem dX11_gives_24 : decode cX11_gives 24 = .ok (.iconst 0, 1) := by decide +kernel
theorem dX11_gives_25 : decode cX11_gives 25 = .ok (.istore_n 3, 1) := by decide +kernel
theorem dX11_gives_26 : decode cX11_gives 26 = .ok (.iload_n 3, 1) := by decide +kernel
theorem dX11_gives_27 : decode cX11_gives 27 = .ok (.bipush 6, 2) := by decide +kernel
theorem dX11_gives_29 : decode cX11_gives 29 = .ok (.if_icmp .ge 43, 3) := by decide +kernel
theorem dX11_gives_32 : decode cX11_gives 32 = .ok (.aload_n 0, 1) := by decide +kernel
theorem dX11_gives_33 : decode cX11_gives 33 = .ok (.getfield 13, 3) := by decide +kernel
theorem dX11_gives_36 : decode cX11_gives 36 = .ok (.sipush 223, 3) := by decide +kernel
theorem dX11_gives_39 : decode cX11_gives 39 = .ok (.bipush 6, 2) := by decide +kernel
theorem dX11_gives_41 : decode cX11_gives 41 = .ok (.iload_n 1, 1) := by decide +kernel
theorem dX11_gives_42 : decode cX11_gives 42 = .ok (.imul, 1) := by decide +kernel
theorem dX11_gives_43 : decode cX11_gives 43 = .ok (.iadd, 1) := by decide +kernel
theorem dX11_gives_44 : decode cX11_gives 44 = .ok (.iload_n 3, 1) := by decide +kernel
theorem dX11_gives_45 : decode cX11_gives 45 = .ok (.iadd, 1) := by decide +kernel
theorem dX11_gives_46 : decode cX11_gives 46 = .ok (.iload_n 3, 1) := by decide +kernel
theorem dX11_gives_47 : decode cX11_gives 47 = .ok (.aload_n 0, 1) := by decide +kernel
theorem dX11_gives_48 : decode cX11_gives 48 = .ok (.invokevirtual 88, 3) := by decide +kernel
theorem dX11_gives_51 : decode cX11_gives 51 = .ok (.if_icmp .ge 13, 3) := by decide +kernel
theorem dX11_gives_54 : decode cX11_gives 54 = .ok (.aload_n 0, 1) := by decide +kernel
theorem dX11_gives_55 : decode cX11_gives 55 = .ok (.iload_n 2, 1) := by decide +kernel
theorem dX11_gives_56 : decode cX11_gives 56 = .ok (.iload_n 3, 1) := by decide +kernel
theorem dX11_gives_57 : decode cX11_gives 57 = .ok (.invokevirtual 166, 3) := by decide +kernel
theorem dX11_gives_60 : decode cX11_gives 60 = .ok (.l2i, 1) := by decide +kernel
theorem dX11_gives_61 : decode cX11_gives 61 = .ok (.goto 4, 3) := by decide +kernel
theorem dX11_gives_64 : decode cX11_gives 64 = .ok (.iconst 0, 1) := by decide +kernel
theorem dX11_gives_65 : decode cX11_gives 65 = .ok (.iastore, 1) := by decide +kernel
theorem dX11_gives_66 : decode cX11_gives 66 = .ok (.iinc 3 1, 3) := by decide +kernel
theorem dX11_gives_69 : decode cX11_gives 69 = .ok (.goto (-43), 3) := by decide +kernel
theorem dX11_gives_72 : decode cX11_gives 72 = .ok (.iconst 1, 1) := by decide +kernel
theorem dX11_gives_73 : decode cX11_gives 73 = .ok (.ireturn, 1) := by decide +kernel
theorem dX11_can_0 : decode cX11_can 0 = .ok (.aload_n 0, 1) := by decide +kernel
theorem dX11_can_1 : decode cX11_can 1 = .ok (.iconst 0, 1) := by decide +kernel
theorem dX11_can_2 : decode cX11_can 2 = .ok (.putfield 1, 3) := by decide +kernel
theorem dX11_can_5 : decode cX11_can 5 = .ok (.aload_n 0, 1) := by decide +kernel
theorem dX11_can_6 : decode cX11_can 6 = .ok (.iload_n 1, 1) := by decide +kernel
theorem dX11_can_7 : decode cX11_can 7 = .ok (.invokevirtual 232, 3) := by decide +kernel
theorem dX11_can_10 : decode cX11_can 10 = .ok (.ifCond .eq 30, 3) := by decide +kernel
theorem dX11_can_13 : decode cX11_can 13 = .ok (.aload_n 0, 1) := by decide +kernel
theorem dX11_can_14 : decode cX11_can 14 = .ok (.iload_n 2, 1) := by decide +kernel
theorem dX11_can_15 : decode cX11_can 15 = .ok (.invokevirtual 232, 3) := by decide +kernel
theorem dX11_can_18 : decode cX11_can 18 = .ok (.ifCond .eq 22, 3) := by decide +kernel
theorem dX11_can_21 : decode cX11_can 21 = .ok (.aload_n 0, 1) := by decide +kernel
theorem dX11_can_22 : decode cX11_can 22 = .ok (.iload_n 3, 1) := by decide +kernel
theorem dX11_can_23 : decode cX11_can 23 = .ok (.invokevirtual 232, 3) := by decide +kernel
theorem dX11_can_26 : decode cX11_can 26 = .ok (.ifCond .eq 14, 3) := by decide +kernel
theorem dX11_can_29 : decode cX11_can 29 = .ok (.aload_n 0, 1) := by decide +kernel
theorem dX11_can_30 : decode cX11_can 30 = .ok (.invokevirtual 235, 3) := by decide +kernel
theorem dX11_can_33 : decode cX11_can 33 = .ok (.ifCond .eq 7, 3) := by decide +kernel
theorem dX11_can_36 : decode cX11_can 36 = .ok (.iconst 1, 1) := by decide +kernel
theorem dX11_can_37 : decode cX11_can 37 = .ok (.goto 4, 3) := by decide +kernel
theorem dX11_can_40 : decode cX11_can 40 = .ok (.iconst 0, 1) := by decide +kernel
theorem dX11_can_41 : decode cX11_can 41 = .ok (.ireturn, 1) := by decide +kernel
theorem dX11_set_0 : decode cX11_set 0 = .ok (.aload_n 0, 1) := by decide +kernel
theorem dX11_set_1 : decode cX11_set 1 = .ok (.iload_n 1, 1) := by decide +kernel
theorem dX11_set_2 : decode cX11_set 2 = .ok (.iconst 0, 1) := by decide +kernel
theorem dX11_set_3 : decode cX11_set 3 = .ok (.iconst 0, 1) := by decide +kernel
theorem dX11_set_4 : decode cX11_set 4 = .ok (.invokevirtual 238, 3) := by decide +kernel
theorem dX11_set_7 : decode cX11_set 7 = .ok (.ifCond .eq 33, 3) := by decide +kernel
theorem dX11_set_10 : decode cX11_set 10 = .ok (.aload_n 0, 1) := by decide +kernel
theorem dX11_set_11 : decode cX11_set 11 = .ok (.iload_n 2, 1) := by decide +kernel
theorem dX11_set_12 : decode cX11_set 12 = .ok (.i2l, 1) := by decide +kernel
theorem dX11_set_13 : decode cX11_set 13 = .ok (.lconst 1, 1) := by decide +kernel
theorem dX11_set_14 : decode cX11_set 14 = .ok (.aload_n 0, 1) := by decide +kernel
theorem dX11_set_15 : decode cX11_set 15 = .ok (.invokevirtual 88, 3) := by decide +kernel
theorem dX11_set_18 : decode cX11_set 18 = .ok (.i2l, 1) := by decide +kernel
theorem dX11_set_19 : decode cX11_set 19 = .ok (.invokevirtual 101, 3) := by decide +kernel
theorem dX11_set_22 : decode cX11_set 22 = .ok (.ifCond .eq 18, 3) := by decide +kernel
theorem dX11_set_25 : decode cX11_set 25 = .ok (.aload_n 0, 1) := by decide +kernel
theorem dX11_set_26 : decode cX11_set 26 = .ok (.iload_n 3, 1) := by decide +kernel
theorem dX11_set_27 : decode cX11_set 27 = .ok (.i2l, 1) := by decide +kernel
theorem dX11_set_28 : decode cX11_set 28 = .ok (.ldc2_w 203, 3) := by decide +kernel
theorem dX11_set_31 : decode cX11_set 31 = .ok (.ldc2_w 205, 3) := by decide +kernel
theorem dX11_set_34 : decode cX11_set 34 = .ok (.invokevirtual 101, 3) := by decide +kernel
theorem dX11_set_37 : decode cX11_set 37 = .ok (.ifCond .ne 5, 3) := by decide +kernel
theorem dX11_set_40 : decode cX11_set 40 = .ok (.iconst 0, 1) := by decide +kernel
theorem dX11_set_41 : decode cX11_set 41 = .ok (.ireturn, 1) := by decide +kernel
theorem dX11_set_42 : decode cX11_set 42 = .ok (.aload_n 0, 1) := by decide +kernel
theorem dX11_set_43 : decode cX11_set 43 = .ok (.iconst 0, 1) := by decide +kernel
theorem dX11_set_44 : decode cX11_set 44 = .ok (.iload_n 1, 1) := by decide +kernel
theorem dX11_set_45 : decode cX11_set 45 = .ok (.invokevirtual 241, 3) := by decide +kernel
theorem dX11_set_48 : decode cX11_set 48 = .ok (.aload_n 0, 1) := by decide +kernel
theorem dX11_set_49 : decode cX11_set 49 = .ok (.iconst 0, 1) := by decide +kernel
theorem dX11_set_50 : decode cX11_set 50 = .ok (.iload_n 2, 1) := by decide +kernel
theorem dX11_set_51 : decode cX11_set 51 = .ok (.iconst 1, 1) := by decide +kernel
theorem dX11_set_52 : decode cX11_set 52 = .ok (.isub, 1) := by decide +kernel
theorem dX11_set_53 : decode cX11_set 53 = .ok (.iload_n 3, 1) := by decide +kernel
theorem dX11_set_54 : decode cX11_set 54 = .ok (.i2l, 1) := by decide +kernel
theorem dX11_set_55 : decode cX11_set 55 = .ok (.invokevirtual 162, 3) := by decide +kernel
theorem dX11_set_58 : decode cX11_set 58 = .ok (.aload_n 0, 1) := by decide +kernel
theorem dX11_set_59 : decode cX11_set 59 = .ok (.iload_n 1, 1) := by decide +kernel
theorem dX11_set_60 : decode cX11_set 60 = .ok (.iconst 0, 1) := by decide +kernel
theorem dX11_set_61 : decode cX11_set 61 = .ok (.invokevirtual 244, 3) := by decide +kernel
theorem dX11_set_64 : decode cX11_set 64 = .ok (.ireturn, 1) := by decide +kernel
theorem dX11_multiply_0 : decode cX11_multiply 0 = .ok (.aload_n 0, 1) := by decide +kernel
theorem dX11_multiply_1 : decode cX11_multiply 1 = .ok (.iload_n 1, 1) := by decide +kernel
theorem dX11_multiply_2 : decode cX11_multiply 2 = .ok (.iload_n 2, 1) := by decide +kernel
theorem dX11_multiply_3 : decode cX11_multiply 3 = .ok (.iload_n 3, 1) := by decide +kernel
theorem dX11_multiply_4 : decode cX11_multiply 4 = .ok (.invokevirtual 238, 3) := by decide +kernel
theorem dX11_multiply_7 : decode cX11_multiply 7 = .ok (.ifCond .ne 5, 3) := by decide +kernel
theorem dX11_multiply_10 : decode cX11_multiply 10 = .ok (.iconst 0, 1) := by decide +kernel
theorem dX11_multiply_11 : decode cX11_multiply 11 = .ok (.ireturn, 1) := by decide +kernel
theorem dX11_multiply_12 : decode cX11_multiply 12 = .ok (.aload_n 0, 1) := by decide +kernel
theorem dX11_multiply_13 : decode cX11_multiply 13 = .ok (.iconst 0, 1) := by decide +kernel
theorem dX11_multiply_14 : decode cX11_multiply 14 = .ok (.iload_n 2, 1) := by decide +kernel
theorem dX11_multiply_15 : decode cX11_multiply 15 = .ok (.invokevirtual 241, 3) := by decide +kernel
theorem dX11_multiply_18 : decode cX11_multiply 18 = .ok (.aload_n 0, 1) := by decide +kernel
theorem dX11_multiply_19 : decode cX11_multiply 19 = .ok (.iconst 1, 1) := by decide +kernel
theorem dX11_multiply_20 : decode cX11_multiply 20 = .ok (.iload_n 3, 1) := by decide +kernel
theorem dX11_multiply_21 : decode cX11_multiply 21 = .ok (.invokevirtual 241, 3) := by decide +kernel
theorem dX11_multiply_24 : decode cX11_multiply 24 = .ok (.aload_n 0, 1) := by decide +kernel
theorem dX11_multiply_25 : decode cX11_multiply 25 = .ok (.iconst 0, 1) := by decide +kernel
theorem dX11_multiply_26 : decode cX11_multiply 26 = .ok (.iconst 1, 1) := by decide +kernel
theorem dX11_multiply_27 : decode cX11_multiply 27 = .ok (.invokevirtual 197, 3) := by decide +kernel
theorem dX11_multiply_30 : decode cX11_multiply 30 = .ok (.aload_n 0, 1) := by decide +kernel
theorem dX11_multiply_31 : decode cX11_multiply 31 = .ok (.iload_n 1, 1) := by decide +kernel
theorem dX11_multiply_32 : decode cX11_multiply 32 = .ok (.iconst 0, 1) := by decide +kernel
theorem dX11_multiply_33 : decode cX11_multiply 33 = .ok (.invokevirtual 244, 3) := by decide +kernel
theorem dX11_multiply_36 : decode cX11_multiply 36 = .ok (.ireturn, 1) := by decide +kernel
theorem dX11_invert_0 : decode cX11_invert 0 = .ok (.aload_n 0, 1) := by decide +kernel
theorem dX11_invert_1 : decode cX11_invert 1 = .ok (.iload_n 1, 1) := by decide +kernel
theorem dX11_invert_2 : decode cX11_invert 2 = .ok (.iload_n 2, 1) := by decide +kernel
theorem dX11_invert_3 : decode cX11_invert 3 = .ok (.iload_n 2, 1) := by decide +kernel
theorem dX11_invert_4 : decode cX11_invert 4 = .ok (.invokevirtual 238, 3) := by decide +kernel
theorem dX11_invert_7 : decode cX11_invert 7 = .ok (.ifCond .ne 5, 3) := by decide +kernel
theorem dX11_invert_10 : decode cX11_invert 10 = .ok (.iconst 0, 1) := by decide +kernel
theorem dX11_invert_11 : decode cX11_invert 11 = .ok (.ireturn, 1) := by decide +kernel
theorem dX11_invert_12 : decode cX11_invert 12 = .ok (.aload_n 0, 1) := by decide +kernel
theorem dX11_invert_13 : decode cX11_invert 13 = .ok (.iconst 0, 1) := by decide +kernel
theorem dX11_invert_14 : decode cX11_invert 14 = .ok (.iload_n 2, 1) := by decide +kernel
theorem dX11_invert_15 : decode cX11_invert 15 = .ok (.invokevirtual 241, 3) := by decide +kernel
theorem dX11_invert_18 : decode cX11_invert 18 = .ok (.aload_n 0, 1) := by decide +kernel
theorem dX11_invert_19 : decode cX11_invert 19 = .ok (.iconst 0, 1) := by decide +kernel
theorem dX11_invert_20 : decode cX11_invert 20 = .ok (.iconst 1, 1) := by decide +kernel
theorem dX11_invert_21 : decode cX11_invert 21 = .ok (.invokevirtual 200, 3) := by decide +kernel
theorem dX11_invert_24 : decode cX11_invert 24 = .ok (.aload_n 0, 1) := by decide +kernel
theorem dX11_invert_25 : decode cX11_invert 25 = .ok (.iload_n 1, 1) := by decide +kernel
theorem dX11_invert_26 : decode cX11_invert 26 = .ok (.iconst 1, 1) := by decide +kernel
theorem dX11_invert_27 : decode cX11_invert 27 = .ok (.invokevirtual 244, 3) := by decide +kernel
theorem dX11_invert_30 : decode cX11_invert 30 = .ok (.ireturn, 1) := by decide +kernel
theorem dX11_power_0 : decode cX11_power 0 = .ok (.aload_n 0, 1) := by decide +kernel
theorem dX11_power_1 : decode cX11_power 1 = .ok (.iload_n 1, 1) := by decide +kernel
theorem dX11_power_2 : decode cX11_power 2 = .ok (.iload_n 2, 1) := by decide +kernel
theorem dX11_power_3 : decode cX11_power 3 = .ok (.iload_n 2, 1) := by decide +kernel
theorem dX11_power_4 : decode cX11_power 4 = .ok (.invokevirtual 238, 3) := by decide +kernel
theorem dX11_power_7 : decode cX11_power 7 = .ok (.ifCond .eq 18, 3) := by decide +kernel
theorem dX11_power_10 : decode cX11_power 10 = .ok (.aload_n 0, 1) := by decide +kernel
theorem dX11_power_11 : decode cX11_power 11 = .ok (.iload_n 3, 1) := by decide +kernel
theorem dX11_power_12 : decode cX11_power 12 = .ok (.i2l, 1) := by decide +kernel
theorem dX11_power_13 : decode cX11_power 13 = .ok (.ldc2_w 247, 3) := by decide +kernel
theorem dX11_power_16 : decode cX11_power 16 = .ok (.ldc2_w 249, 3) := by decide +kernel
theorem dX11_power_19 : decode cX11_power 19 = .ok (.invokevirtual 101, 3) := by decide +kernel
theorem dX11_power_22 : decode cX11_power 22 = .ok (.ifCond .ne 5, 3) := by decide +kernel
theorem dX11_power_25 : decode cX11_power 25 = .ok (.iconst 0, 1) := by decide +kernel
theorem dX11_power_26 : decode cX11_power 26 = .ok (.ireturn, 1) := by decide +kernel
theorem dX11_power_27 : decode cX11_power 27 = .ok (.aload_n 0, 1) := by decide +kernel
theorem dX11_power_28 : decode cX11_power 28 = .ok (.iconst 0, 1) := by decide +kernel
theorem dX11_power_29 : decode cX11_power 29 = .ok (.iload_n 2, 1) := by decide +kernel
theorem dX11_power_30 : decode cX11_power 30 = .ok (.invokevirtual 241, 3) := by decide +kernel
theorem dX11_power_33 : decode cX11_power 33 = .ok (.aload_n 0, 1) := by decide +kernel
theorem dX11_power_34 : decode cX11_power 34 = .ok (.iconst 0, 1) := by decide +kernel
theorem dX11_power_35 : decode cX11_power 35 = .ok (.iconst 1, 1) := by decide +kernel
theorem dX11_power_36 : decode cX11_power 36 = .ok (.iload_n 3, 1) := by decide +kernel
theorem dX11_power_37 : decode cX11_power 37 = .ok (.invokevirtual 251, 3) := by decide +kernel
theorem dX11_power_40 : decode cX11_power 40 = .ok (.aload_n 0, 1) := by decide +kernel
theorem dX11_power_41 : decode cX11_power 41 = .ok (.iload_n 1, 1) := by decide +kernel
theorem dX11_power_42 : decode cX11_power 42 = .ok (.iconst 1, 1) := by decide +kernel
theorem dX11_power_43 : decode cX11_power 43 = .ok (.invokevirtual 244, 3) := by decide +kernel
theorem dX11_power_46 : decode cX11_power 46 = .ok (.ireturn, 1) := by decide +kernel
theorem dX11_commute_0 : decode cX11_commute 0 = .ok (.aload_n 0, 1) := by decide +kernel
theorem dX11_commute_1 : decode cX11_commute 1 = .ok (.iload_n 1, 1) := by decide +kernel
theorem dX11_commute_2 : decode cX11_commute 2 = .ok (.iload_n 2, 1) := by decide +kernel
theorem dX11_commute_3 : decode cX11_commute 3 = .ok (.iload_n 3, 1) := by decide +kernel
theorem dX11_commute_4 : decode cX11_commute 4 = .ok (.invokevirtual 238, 3) := by decide +kernel
theorem dX11_commute_7 : decode cX11_commute 7 = .ok (.ifCond .ne 5, 3) := by decide +kernel
theorem dX11_commute_10 : decode cX11_commute 10 = .ok (.iconst 0, 1) := by decide +kernel
theorem dX11_commute_11 : decode cX11_commute 11 = .ok (.ireturn, 1) := by decide +kernel
theorem dX11_commute_12 : decode cX11_commute 12 = .ok (.aload_n 0, 1) := by decide +kernel
theorem dX11_commute_13 : decode cX11_commute 13 = .ok (.iconst 0, 1) := by decide +kernel
theorem dX11_commute_14 : decode cX11_commute 14 = .ok (.iload_n 2, 1) := by decide +kernel
theorem dX11_commute_15 : decode cX11_commute 15 = .ok (.invokevirtual 241, 3) := by decide +kernel
theorem dX11_commute_18 : decode cX11_commute 18 = .ok (.aload_n 0, 1) := by decide +kernel
theorem dX11_commute_19 : decode cX11_commute 19 = .ok (.iconst 1, 1) := by decide +kernel
theorem dX11_commute_20 : decode cX11_commute 20 = .ok (.iload_n 3, 1) := by decide +kernel
theorem dX11_commute_21 : decode cX11_commute 21 = .ok (.invokevirtual 241, 3) := by decide +kernel
theorem dX11_commute_24 : decode cX11_commute 24 = .ok (.aload_n 0, 1) := by decide +kernel
theorem dX11_commute_25 : decode cX11_commute 25 = .ok (.iconst 0, 1) := by decide +kernel
theorem dX11_commute_26 : decode cX11_commute 26 = .ok (.iconst 1, 1) := by decide +kernel
theorem dX11_commute_27 : decode cX11_commute 27 = .ok (.iconst 2, 1) := by decide +kernel
theorem dX11_commute_28 : decode cX11_commute 28 = .ok (.invokevirtual 254, 3) := by decide +kernel
theorem dX11_commute_31 : decode cX11_commute 31 = .ok (.aload_n 0, 1) := by decide +kernel
theorem dX11_commute_32 : decode cX11_commute 32 = .ok (.iload_n 1, 1) := by decide +kernel
theorem dX11_commute_33 : decode cX11_commute 33 = .ok (.iconst 2, 1) := by decide +kernel
theorem dX11_commute_34 : decode cX11_commute 34 = .ok (.invokevirtual 244, 3) := by decide +kernel
theorem dX11_commute_37 : decode cX11_commute 37 = .ok (.ireturn, 1) := by decide +kernel
theorem dX11_conjugate_0 : decode cX11_conjugate 0 = .ok (.aload_n 0, 1) := by decide +kernel
theorem dX11_conjugate_1 : decode cX11_conjugate 1 = .ok (.iload_n 1, 1) := by decide +kernel
theorem dX11_conjugate_2 : decode cX11_conjugate 2 = .ok (.iload_n 2, 1) := by decide +kernel
theorem dX11_conjugate_3 : decode cX11_conjugate 3 = .ok (.iload_n 3, 1) := by decide +kernel
theorem dX11_conjugate_4 : decode cX11_conjugate 4 = .ok (.invokevirtual 238, 3) := by decide +kernel
theorem dX11_conjugate_7 : decode cX11_conjugate 7 = .ok (.ifCond .ne 5, 3) := by decide +kernel
theorem dX11_conjugate_10 : decode cX11_conjugate 10 = .ok (.iconst 0, 1) := by decide +kernel
theorem dX11_conjugate_11 : decode cX11_conjugate 11 = .ok (.ireturn, 1) := by decide +kernel
theorem dX11_conjugate_12 : decode cX11_conjugate 12 = .ok (.aload_n 0, 1) := by decide +kernel
theorem dX11_conjugate_13 : decode cX11_conjugate 13 = .ok (.iconst 0, 1) := by decide +kernel
theorem dX11_conjugate_14 : decode cX11_conjugate 14 = .ok (.iload_n 2, 1) := by decide +kernel
theorem dX11_conjugate_15 : decode cX11_conjugate 15 = .ok (.invokevirtual 241, 3) := by decide +kernel
theorem dX11_conjugate_18 : decode cX11_conjugate 18 = .ok (.aload_n 0, 1) := by decide +kernel
theorem dX11_conjugate_19 : decode cX11_conjugate 19 = .ok (.iconst 1, 1) := by decide +kernel
theorem dX11_conjugate_20 : decode cX11_conjugate 20 = .ok (.iload_n 3, 1) := by decide +kernel
theorem dX11_conjugate_21 : decode cX11_conjugate 21 = .ok (.invokevirtual 241, 3) := by decide +kernel
theorem dX11_conjugate_24 : decode cX11_conjugate 24 = .ok (.aload_n 0, 1) := by decide +kernel
theorem dX11_conjugate_25 : decode cX11_conjugate 25 = .ok (.iconst 0, 1) := by decide +kernel
theorem dX11_conjugate_26 : decode cX11_conjugate 26 = .ok (.iconst 1, 1) := by decide +kernel
theorem dX11_conjugate_27 : decode cX11_conjugate 27 = .ok (.iconst 2, 1) := by decide +kernel
theorem dX11_conjugate_28 : decode cX11_conjugate 28 = .ok (.invokevirtual 257, 3) := by decide +kernel
theorem dX11_conjugate_31 : decode cX11_conjugate 31 = .ok (.aload_n 0, 1) := by decide +kernel
theorem dX11_conjugate_32 : decode cX11_conjugate 32 = .ok (.iload_n 1, 1) := by decide +kernel
theorem dX11_conjugate_33 : decode cX11_conjugate 33 = .ok (.iconst 2, 1) := by decide +kernel
theorem dX11_conjugate_34 : decode cX11_conjugate 34 = .ok (.invokevirtual 244, 3) := by decide +kernel
theorem dX11_conjugate_37 : decode cX11_conjugate 37 = .ok (.ireturn, 1) := by decide +kernel
theorem dX11_extracts_0 : decode cX11_extracts 0 = .ok (.aload_n 0, 1) := by decide +kernel
theorem dX11_extracts_1 : decode cX11_extracts 1 = .ok (.iload_n 2, 1) := by decide +kernel
theorem dX11_extracts_2 : decode cX11_extracts 2 = .ok (.invokevirtual 190, 3) := by decide +kernel
theorem dX11_extracts_5 : decode cX11_extracts 5 = .ok (.iconst 0, 1) := by decide +kernel
theorem dX11_extracts_6 : decode cX11_extracts 6 = .ok (.istore 4, 2) := by decide +kernel
theorem dX11_extracts_8 : decode cX11_extracts 8 = .ok (.iload 4, 2) := by decide +kernel
theorem dX11_extracts_10 : decode cX11_extracts 10 = .ok (.aload_n 0, 1) := by decide +kernel
theorem dX11_extracts_11 : decode cX11_extracts 11 = .ok (.invokevirtual 88, 3) := by decide +kernel
theorem dX11_extracts_14 : decode cX11_extracts 14 = .ok (.if_icmp .ge 61, 3) := by decide +kernel
theorem dX11_extracts_17 : decode cX11_extracts 17 = .ok (.aload_n 0, 1) := by decide +kernel
theorem dX11_extracts_18 : decode cX11_extracts 18 = .ok (.iload_n 2, 1) := by decide +kernel
theorem dX11_extracts_19 : decode cX11_extracts 19 = .ok (.iload_n 2, 1) := by decide +kernel
theorem dX11_extracts_20 : decode cX11_extracts 20 = .ok (.iconst 1, 1) := by decide +kernel
theorem dX11_extracts_21 : decode cX11_extracts 21 = .ok (.iadd, 1) := by decide +kernel
theorem dX11_extracts_22 : decode cX11_extracts 22 = .ok (.iload_n 3, 1) := by decide +kernel
theorem dX11_extracts_23 : decode cX11_extracts 23 = .ok (.invokevirtual 251, 3) := by decide +kernel
theorem dX11_extracts_26 : decode cX11_extracts 26 = .ok (.aload_n 0, 1) := by decide +kernel
theorem dX11_extracts_27 : decode cX11_extracts 27 = .ok (.iload_n 1, 1) := by decide +kernel
theorem dX11_extracts_28 : decode cX11_extracts 28 = .ok (.iload 4, 2) := by decide +kernel
theorem dX11_extracts_30 : decode cX11_extracts 30 = .ok (.invokevirtual 166, 3) := by decide +kernel
theorem dX11_extracts_33 : decode cX11_extracts 33 = .ok (.aload_n 0, 1) := by decide +kernel
theorem dX11_extracts_34 : decode cX11_extracts 34 = .ok (.iload_n 2, 1) := by decide +kernel
theorem dX11_extracts_35 : decode cX11_extracts 35 = .ok (.iconst 1, 1) := by decide +kernel
theorem dX11_extracts_36 : decode cX11_extracts 36 = .ok (.iadd, 1) := by decide +kernel
theorem dX11_extracts_37 : decode cX11_extracts 37 = .ok (.iload 4, 2) := by decide +kernel
theorem dX11_extracts_39 : decode cX11_extracts 39 = .ok (.invokevirtual 166, 3) := by decide +kernel
theorem dX11_extracts_42 : decode cX11_extracts 42 = .ok (.lsub, 1) := by decide +kernel
theorem dX11_extracts_43 : decode cX11_extracts 43 = .ok (.lstore 5, 2) := by decide +kernel
theorem dX11_extracts_45 : decode cX11_extracts 45 = .ok (.lload 5, 2) := by decide +kernel
theorem dX11_extracts_47 : decode cX11_extracts 47 = .ok (.iload_n 3, 1) := by decide +kernel
theorem dX11_extracts_48 : decode cX11_extracts 48 = .ok (.i2l, 1) := by decide +kernel
theorem dX11_extracts_49 : decode cX11_extracts 49 = .ok (.lrem, 1) := by decide +kernel
theorem dX11_extracts_50 : decode cX11_extracts 50 = .ok (.lconst 0, 1) := by decide +kernel
theorem dX11_extracts_51 : decode cX11_extracts 51 = .ok (.lcmp, 1) := by decide +kernel
theorem dX11_extracts_52 : decode cX11_extracts 52 = .ok (.ifCond .eq 5, 3) := by decide +kernel
theorem dX11_extracts_55 : decode cX11_extracts 55 = .ok (.iconst 0, 1) := by decide +kernel
theorem dX11_extracts_56 : decode cX11_extracts 56 = .ok (.ireturn, 1) := by decide +kernel
theorem dX11_extracts_57 : decode cX11_extracts 57 = .ok (.aload_n 0, 1) := by decide +kernel
theorem dX11_extracts_58 : decode cX11_extracts 58 = .ok (.iload_n 2, 1) := by decide +kernel
theorem dX11_extracts_59 : decode cX11_extracts 59 = .ok (.iload 4, 2) := by decide +kernel
theorem dX11_extracts_61 : decode cX11_extracts 61 = .ok (.lload 5, 2) := by decide +kernel
theorem dX11_extracts_63 : decode cX11_extracts 63 = .ok (.iload_n 3, 1) := by decide +kernel
theorem dX11_extracts_64 : decode cX11_extracts 64 = .ok (.i2l, 1) := by decide +kernel
theorem dX11_extracts_65 : decode cX11_extracts 65 = .ok (.ldiv, 1) := by decide +kernel
theorem dX11_extracts_66 : decode cX11_extracts 66 = .ok (.invokevirtual 162, 3) := by decide +kernel
theorem dX11_extracts_69 : decode cX11_extracts 69 = .ok (.iinc 4 1, 3) := by decide +kernel
theorem dX11_extracts_72 : decode cX11_extracts 72 = .ok (.goto (-64), 3) := by decide +kernel
theorem dX11_extracts_75 : decode cX11_extracts 75 = .ok (.iconst 1, 1) := by decide +kernel
theorem dX11_extracts_76 : decode cX11_extracts 76 = .ok (.ireturn, 1) := by decide +kernel
theorem dX11_root_0 : decode cX11_root 0 = .ok (.aload_n 0, 1) := by decide +kernel
theorem dX11_root_1 : decode cX11_root 1 = .ok (.iload_n 1, 1) := by decide +kernel
theorem dX11_root_2 : decode cX11_root 2 = .ok (.iload_n 2, 1) := by decide +kernel
theorem dX11_root_3 : decode cX11_root 3 = .ok (.iload_n 2, 1) := by decide +kernel
theorem dX11_root_4 : decode cX11_root 4 = .ok (.invokevirtual 238, 3) := by decide +kernel
theorem dX11_root_7 : decode cX11_root 7 = .ok (.ifCond .eq 16, 3) := by decide +kernel
theorem dX11_root_10 : decode cX11_root 10 = .ok (.aload_n 0, 1) := by decide +kernel
theorem dX11_root_11 : decode cX11_root 11 = .ok (.iload_n 3, 1) := by decide +kernel
theorem dX11_root_12 : decode cX11_root 12 = .ok (.i2l, 1) := by decide +kernel
theorem dX11_root_13 : decode cX11_root 13 = .ok (.lconst 1, 1) := by decide +kernel
theorem dX11_root_14 : decode cX11_root 14 = .ok (.ldc2_w 249, 3) := by decide +kernel
theorem dX11_root_17 : decode cX11_root 17 = .ok (.invokevirtual 101, 3) := by decide +kernel
theorem dX11_root_20 : decode cX11_root 20 = .ok (.ifCond .ne 5, 3) := by decide +kernel
theorem dX11_root_23 : decode cX11_root 23 = .ok (.iconst 0, 1) := by decide +kernel
theorem dX11_root_24 : decode cX11_root 24 = .ok (.ireturn, 1) := by decide +kernel
theorem dX11_root_25 : decode cX11_root 25 = .ok (.aload_n 0, 1) := by decide +kernel
theorem dX11_root_26 : decode cX11_root 26 = .ok (.iconst 0, 1) := by decide +kernel
theorem dX11_root_27 : decode cX11_root 27 = .ok (.iload_n 2, 1) := by decide +kernel
theorem dX11_root_28 : decode cX11_root 28 = .ok (.invokevirtual 241, 3) := by decide +kernel
theorem dX11_root_31 : decode cX11_root 31 = .ok (.aload_n 0, 1) := by decide +kernel
theorem dX11_root_32 : decode cX11_root 32 = .ok (.iconst 0, 1) := by decide +kernel
theorem dX11_root_33 : decode cX11_root 33 = .ok (.iconst 1, 1) := by decide +kernel
theorem dX11_root_34 : decode cX11_root 34 = .ok (.iload_n 3, 1) := by decide +kernel
theorem dX11_root_35 : decode cX11_root 35 = .ok (.invokevirtual 260, 3) := by decide +kernel
theorem dX11_root_38 : decode cX11_root 38 = .ok (.ifCond .eq 24, 3) := by decide +kernel
theorem dX11_root_41 : decode cX11_root 41 = .ok (.aload_n 0, 1) := by decide +kernel
theorem dX11_root_42 : decode cX11_root 42 = .ok (.iconst 1, 1) := by decide +kernel
theorem dX11_root_43 : decode cX11_root 43 = .ok (.invokevirtual 225, 3) := by decide +kernel
theorem dX11_root_46 : decode cX11_root 46 = .ok (.ifCond .eq 16, 3) := by decide +kernel
theorem dX11_root_49 : decode cX11_root 49 = .ok (.aload_n 0, 1) := by decide +kernel
theorem dX11_root_50 : decode cX11_root 50 = .ok (.iload_n 1, 1) := by decide +kernel
theorem dX11_root_51 : decode cX11_root 51 = .ok (.iconst 1, 1) := by decide +kernel
theorem dX11_root_52 : decode cX11_root 52 = .ok (.invokevirtual 244, 3) := by decide +kernel
theorem dX11_root_55 : decode cX11_root 55 = .ok (.ifCond .eq 7, 3) := by decide +kernel
theorem dX11_root_58 : decode cX11_root 58 = .ok (.iconst 1, 1) := by decide +kernel
theorem dX11_root_59 : decode cX11_root 59 = .ok (.goto 4, 3) := by decide +kernel
theorem dX11_root_62 : decode cX11_root 62 = .ok (.iconst 0, 1) := by decide +kernel
theorem dX11_root_63 : decode cX11_root 63 = .ok (.ireturn, 1) := by decide +kernel
theorem dX11_seeks_0 : decode cX11_seeks 0 = .ok (.iload_n 1, 1) := by decide +kernel
theorem dX11_seeks_1 : decode cX11_seeks 1 = .ok (.aload_n 0, 1) := by decide +kernel
theorem dX11_seeks_2 : decode cX11_seeks 2 = .ok (.invokevirtual 88, 3) := by decide +kernel
theorem dX11_seeks_5 : decode cX11_seeks 5 = .ok (.if_icmp .eq 15, 3) := by decide +kernel
theorem dX11_seeks_8 : decode cX11_seeks 8 = .ok (.aload_n 0, 1) := by decide +kernel
theorem dX11_seeks_9 : decode cX11_seeks 9 = .ok (.iload_n 1, 1) := by decide +kernel
theorem dX11_seeks_10 : decode cX11_seeks 10 = .ok (.invokevirtual 92, 3) := by decide +kernel
theorem dX11_seeks_13 : decode cX11_seeks 13 = .ok (.aload_n 0, 1) := by decide +kernel
theorem dX11_seeks_14 : decode cX11_seeks 14 = .ok (.invokevirtual 263, 3) := by decide +kernel
theorem dX11_seeks_17 : decode cX11_seeks 17 = .ok (.if_icmp .ne 17, 3) := by decide +kernel
theorem dX11_seeks_20 : decode cX11_seeks 20 = .ok (.aload_n 0, 1) := by decide +kernel
theorem dX11_seeks_21 : decode cX11_seeks 21 = .ok (.iconst 0, 1) := by decide +kernel
theorem dX11_seeks_22 : decode cX11_seeks 22 = .ok (.iconst 2, 1) := by decide +kernel
theorem dX11_seeks_23 : decode cX11_seeks 23 = .ok (.iconst 3, 1) := by decide +kernel
theorem dX11_seeks_24 : decode cX11_seeks 24 = .ok (.invokevirtual 257, 3) := by decide +kernel
theorem dX11_seeks_27 : decode cX11_seeks 27 = .ok (.aload_n 0, 1) := by decide +kernel
theorem dX11_seeks_28 : decode cX11_seeks 28 = .ok (.iconst 3, 1) := by decide +kernel
theorem dX11_seeks_29 : decode cX11_seeks 29 = .ok (.iconst 1, 1) := by decide +kernel
theorem dX11_seeks_30 : decode cX11_seeks 30 = .ok (.invokevirtual 266, 3) := by decide +kernel
theorem dX11_seeks_33 : decode cX11_seeks 33 = .ok (.ireturn, 1) := by decide +kernel
theorem dX11_seeks_34 : decode cX11_seeks 34 = .ok (.iload_n 2, 1) := by decide +kernel
theorem dX11_seeks_35 : decode cX11_seeks 35 = .ok (.ineg, 1) := by decide +kernel
theorem dX11_seeks_36 : decode cX11_seeks 36 = .ok (.istore_n 3, 1) := by decide +kernel
theorem dX11_seeks_37 : decode cX11_seeks 37 = .ok (.iload_n 3, 1) := by decide +kernel
theorem dX11_seeks_38 : decode cX11_seeks 38 = .ok (.iload_n 2, 1) := by decide +kernel
theorem dX11_seeks_39 : decode cX11_seeks 39 = .ok (.if_icmp .gt 30, 3) := by decide +kernel
theorem dX11_seeks_42 : decode cX11_seeks 42 = .ok (.aload_n 0, 1) := by decide +kernel
theorem dX11_seeks_43 : decode cX11_seeks 43 = .ok (.iconst 2, 1) := by decide +kernel
theorem dX11_seeks_44 : decode cX11_seeks 44 = .ok (.iload_n 1, 1) := by decide +kernel
theorem dX11_seeks_45 : decode cX11_seeks 45 = .ok (.iload_n 3, 1) := by decide +kernel
theorem dX11_seeks_46 : decode cX11_seeks 46 = .ok (.i2l, 1) := by decide +kernel
theorem dX11_seeks_47 : decode cX11_seeks 47 = .ok (.invokevirtual 162, 3) := by decide +kernel
theorem dX11_seeks_50 : decode cX11_seeks 50 = .ok (.aload_n 0, 1) := by decide +kernel
theorem dX11_seeks_51 : decode cX11_seeks 51 = .ok (.iload_n 1, 1) := by decide +kernel
theorem dX11_seeks_52 : decode cX11_seeks 52 = .ok (.iconst 1, 1) := by decide +kernel
theorem dX11_seeks_53 : decode cX11_seeks 53 = .ok (.iadd, 1) := by decide +kernel
theorem dX11_seeks_54 : decode cX11_seeks 54 = .ok (.iload_n 2, 1) := by decide +kernel
theorem dX11_seeks_55 : decode cX11_seeks 55 = .ok (.invokevirtual 269, 3) := by decide +kernel
theorem dX11_seeks_58 : decode cX11_seeks 58 = .ok (.ifCond .eq 5, 3) := by decide +kernel
theorem dX11_seeks_61 : decode cX11_seeks 61 = .ok (.iconst 1, 1) := by decide +kernel
theorem dX11_seeks_62 : decode cX11_seeks 62 = .ok (.ireturn, 1) := by decide +kernel
theorem dX11_seeks_63 : decode cX11_seeks 63 = .ok (.iinc 3 1, 3) := by decide +kernel
theorem dX11_seeks_66 : decode cX11_seeks 66 = .ok (.goto (-29), 3) := by decide +kernel
theorem dX11_seeks_69 : decode cX11_seeks 69 = .ok (.aload_n 0, 1) := by decide +kernel
theorem dX11_seeks_70 : decode cX11_seeks 70 = .ok (.iconst 2, 1) := by decide +kernel
theorem dX11_seeks_71 : decode cX11_seeks 71 = .ok (.iload_n 1, 1) := by decide +kernel
theorem dX11_seeks_72 : decode cX11_seeks 72 = .ok (.lconst 0, 1) := by decide +kernel
theorem dX11_seeks_73 : decode cX11_seeks 73 = .ok (.invokevirtual 162, 3) := by decide +kernel
theorem dX11_seeks_76 : decode cX11_seeks 76 = .ok (.iconst 0, 1) := by decide +kernel
theorem dX11_seeks_77 : decode cX11_seeks 77 = .ok (.ireturn, 1) := by decide +kernel
theorem dX11_seek_0 : decode cX11_seek 0 = .ok (.aload_n 0, 1) := by decide +kernel
theorem dX11_seek_1 : decode cX11_seek 1 = .ok (.iload_n 1, 1) := by decide +kernel
theorem dX11_seek_2 : decode cX11_seek 2 = .ok (.iload_n 2, 1) := by decide +kernel
theorem dX11_seek_3 : decode cX11_seek 3 = .ok (.iload_n 3, 1) := by decide +kernel
theorem dX11_seek_4 : decode cX11_seek 4 = .ok (.invokevirtual 238, 3) := by decide +kernel
theorem dX11_seek_7 : decode cX11_seek 7 = .ok (.ifCond .eq 17, 3) := by decide +kernel
theorem dX11_seek_10 : decode cX11_seek 10 = .ok (.aload_n 0, 1) := by decide +kernel
theorem dX11_seek_11 : decode cX11_seek 11 = .ok (.iload 4, 2) := by decide +kernel
theorem dX11_seek_13 : decode cX11_seek 13 = .ok (.i2l, 1) := by decide +kernel
theorem dX11_seek_14 : decode cX11_seek 14 = .ok (.lconst 1, 1) := by decide +kernel
theorem dX11_seek_15 : decode cX11_seek 15 = .ok (.ldc2_w 118, 3) := by decide +kernel
theorem dX11_seek_18 : decode cX11_seek 18 = .ok (.invokevirtual 101, 3) := by decide +kernel
theorem dX11_seek_21 : decode cX11_seek 21 = .ok (.ifCond .ne 5, 3) := by decide +kernel
theorem dX11_seek_24 : decode cX11_seek 24 = .ok (.iconst 0, 1) := by decide +kernel
theorem dX11_seek_25 : decode cX11_seek 25 = .ok (.ireturn, 1) := by decide +kernel
theorem dX11_seek_26 : decode cX11_seek 26 = .ok (.aload_n 0, 1) := by decide +kernel
theorem dX11_seek_27 : decode cX11_seek 27 = .ok (.iconst 0, 1) := by decide +kernel
theorem dX11_seek_28 : decode cX11_seek 28 = .ok (.iload_n 2, 1) := by decide +kernel
theorem dX11_seek_29 : decode cX11_seek 29 = .ok (.invokevirtual 241, 3) := by decide +kernel
theorem dX11_seek_32 : decode cX11_seek 32 = .ok (.aload_n 0, 1) := by decide +kernel
theorem dX11_seek_33 : decode cX11_seek 33 = .ok (.iconst 1, 1) := by decide +kernel
theorem dX11_seek_34 : decode cX11_seek 34 = .ok (.iload_n 3, 1) := by decide +kernel
theorem dX11_seek_35 : decode cX11_seek 35 = .ok (.invokevirtual 241, 3) := by decide +kernel
theorem dX11_seek_38 : decode cX11_seek 38 = .ok (.aload_n 0, 1) := by decide +kernel
theorem dX11_seek_39 : decode cX11_seek 39 = .ok (.iconst 2, 1) := by decide +kernel
theorem dX11_seek_40 : decode cX11_seek 40 = .ok (.invokevirtual 190, 3) := by decide +kernel
theorem dX11_seek_43 : decode cX11_seek 43 = .ok (.aload_n 0, 1) := by decide +kernel
theorem dX11_seek_44 : decode cX11_seek 44 = .ok (.iconst 0, 1) := by decide +kernel
theorem dX11_seek_45 : decode cX11_seek 45 = .ok (.iload 4, 2) := by decide +kernel
theorem dX11_seek_47 : decode cX11_seek 47 = .ok (.invokevirtual 269, 3) := by decide +kernel
theorem dX11_seek_50 : decode cX11_seek 50 = .ok (.ifCond .eq 16, 3) := by decide +kernel
theorem dX11_seek_53 : decode cX11_seek 53 = .ok (.aload_n 0, 1) := by decide +kernel
theorem dX11_seek_54 : decode cX11_seek 54 = .ok (.iload_n 1, 1) := by decide +kernel
theorem dX11_seek_55 : decode cX11_seek 55 = .ok (.iconst 2, 1) := by decide +kernel
theorem dX11_seek_56 : decode cX11_seek 56 = .ok (.invokevirtual 244, 3) := by decide +kernel
theorem dX11_seek_59 : decode cX11_seek 59 = .ok (.ifCond .eq 7, 3) := by decide +kernel
theorem dX11_seek_62 : decode cX11_seek 62 = .ok (.iconst 1, 1) := by decide +kernel
theorem dX11_seek_63 : decode cX11_seek 63 = .ok (.goto 4, 3) := by decide +kernel
theorem dX11_seek_66 : decode cX11_seek 66 = .ok (.iconst 0, 1) := by decide +kernel
theorem dX11_seek_67 : decode cX11_seek 67 = .ok (.ireturn, 1) := by decide +kernel
theorem dX11_types_0 : decode cX11_types 0 = .ok (.bipush 24, 2) := by decide +kernel
theorem dX11_types_2 : decode cX11_types 2 = .ok (.istore_n 2, 1) := by decide +kernel
theorem dX11_types_3 : decode cX11_types 3 = .ok (.iload_n 2, 1) := by decide +kernel
theorem dX11_types_4 : decode cX11_types 4 = .ok (.ifCond .lt 35, 3) := by decide +kernel
theorem dX11_types_7 : decode cX11_types 7 = .ok (.aload_n 0, 1) := by decide +kernel
theorem dX11_types_8 : decode cX11_types 8 = .ok (.getfield 46, 3) := by decide +kernel
theorem dX11_types_11 : decode cX11_types 11 = .ok (.aload_n 0, 1) := by decide +kernel
theorem dX11_types_12 : decode cX11_types 12 = .ok (.getfield 272, 3) := by decide +kernel
theorem dX11_types_15 : decode cX11_types 15 = .ok (.iload_n 1, 1) := by decide +kernel
theorem dX11_types_16 : decode cX11_types 16 = .ok (.iload_n 2, 1) := by decide +kernel
theorem dX11_types_17 : decode cX11_types 17 = .ok (.ishr, 1) := by decide +kernel
theorem dX11_types_18 : decode cX11_types 18 = .ok (.sipush 255, 3) := by decide +kernel
theorem dX11_types_21 : decode cX11_types 21 = .ok (.iand, 1) := by decide +kernel
theorem dX11_types_22 : decode cX11_types 22 = .ok (.iastore, 1) := by decide +kernel
theorem dX11_types_23 : decode cX11_types 23 = .ok (.aload_n 0, 1) := by decide +kernel
theorem dX11_types_24 : decode cX11_types 24 = .ok (.aload_n 0, 1) := by decide +kernel
theorem dX11_types_25 : decode cX11_types 25 = .ok (.getfield 272, 3) := by decide +kernel
theorem dX11_types_28 : decode cX11_types 28 = .ok (.iconst 1, 1) := by decide +kernel
theorem dX11_types_29 : decode cX11_types 29 = .ok (.iadd, 1) := by decide +kernel
theorem dX11_types_30 : decode cX11_types 30 = .ok (.putfield 272, 3) := by decide +kernel
theorem dX11_types_33 : decode cX11_types 33 = .ok (.iinc 2 (-8), 3) := by decide +kernel
theorem dX11_types_36 : decode cX11_types 36 = .ok (.goto (-33), 3) := by decide +kernel
theorem dX11_types_39 : decode cX11_types 39 = .ok (.return_, 1) := by decide +kernel
theorem dX11_feed_0 : decode cX11_feed 0 = .ok (.aload_n 0, 1) := by decide +kernel
theorem dX11_feed_1 : decode cX11_feed 1 = .ok (.iconst 0, 1) := by decide +kernel
theorem dX11_feed_2 : decode cX11_feed 2 = .ok (.putfield 1, 3) := by decide +kernel
theorem dX11_feed_5 : decode cX11_feed 5 = .ok (.aload_n 0, 1) := by decide +kernel
theorem dX11_feed_6 : decode cX11_feed 6 = .ok (.getfield 272, 3) := by decide +kernel
theorem dX11_feed_9 : decode cX11_feed 9 = .ok (.sipush 180, 3) := by decide +kernel
theorem dX11_feed_12 : decode cX11_feed 12 = .ok (.if_icmp .le 5, 3) := by decide +kernel
theorem dX11_feed_15 : decode cX11_feed 15 = .ok (.iconst (-1), 1) := by decide +kernel
theorem dX11_feed_16 : decode cX11_feed 16 = .ok (.ireturn, 1) := by decide +kernel
theorem dX11_feed_17 : decode cX11_feed 17 = .ok (.aload_n 0, 1) := by decide +kernel
theorem dX11_feed_18 : decode cX11_feed 18 = .ok (.iload_n 1, 1) := by decide +kernel
theorem dX11_feed_19 : decode cX11_feed 19 = .ok (.invokevirtual 275, 3) := by decide +kernel
theorem dX11_feed_22 : decode cX11_feed 22 = .ok (.aload_n 0, 1) := by decide +kernel
theorem dX11_feed_23 : decode cX11_feed 23 = .ok (.iload_n 2, 1) := by decide +kernel
theorem dX11_feed_24 : decode cX11_feed 24 = .ok (.invokevirtual 275, 3) := by decide +kernel
theorem dX11_feed_27 : decode cX11_feed 27 = .ok (.aload_n 0, 1) := by decide +kernel
theorem dX11_feed_28 : decode cX11_feed 28 = .ok (.iload_n 3, 1) := by decide +kernel
theorem dX11_feed_29 : decode cX11_feed 29 = .ok (.invokevirtual 275, 3) := by decide +kernel
theorem dX11_feed_32 : decode cX11_feed 32 = .ok (.aload_n 0, 1) := by decide +kernel
theorem dX11_feed_33 : decode cX11_feed 33 = .ok (.iload 4, 2) := by decide +kernel
theorem dX11_feed_35 : decode cX11_feed 35 = .ok (.invokevirtual 275, 3) := by decide +kernel
theorem dX11_feed_38 : decode cX11_feed 38 = .ok (.aload_n 0, 1) := by decide +kernel
theorem dX11_feed_39 : decode cX11_feed 39 = .ok (.iload 5, 2) := by decide +kernel
theorem dX11_feed_41 : decode cX11_feed 41 = .ok (.invokevirtual 275, 3) := by decide +kernel
theorem dX11_feed_44 : decode cX11_feed 44 = .ok (.aload_n 0, 1) := by decide +kernel
theorem dX11_feed_45 : decode cX11_feed 45 = .ok (.getfield 272, 3) := by decide +kernel
theorem dX11_feed_48 : decode cX11_feed 48 = .ok (.ireturn, 1) := by decide +kernel
theorem dX11_end_0 : decode cX11_end 0 = .ok (.aload_n 0, 1) := by decide +kernel
theorem dX11_end_1 : decode cX11_end 1 = .ok (.iconst 0, 1) := by decide +kernel
theorem dX11_end_2 : decode cX11_end 2 = .ok (.putfield 1, 3) := by decide +kernel
theorem dX11_end_5 : decode cX11_end 5 = .ok (.aload_n 0, 1) := by decide +kernel
theorem dX11_end_6 : decode cX11_end 6 = .ok (.iload_n 1, 1) := by decide +kernel
theorem dX11_end_7 : decode cX11_end 7 = .ok (.i2l, 1) := by decide +kernel
theorem dX11_end_8 : decode cX11_end 8 = .ok (.lconst 0, 1) := by decide +kernel
theorem dX11_end_9 : decode cX11_end 9 = .ok (.aload_n 0, 1) := by decide +kernel
theorem dX11_end_10 : decode cX11_end 10 = .ok (.getfield 272, 3) := by decide +kernel
theorem dX11_end_13 : decode cX11_end 13 = .ok (.i2l, 1) := by decide +kernel
theorem dX11_end_14 : decode cX11_end 14 = .ok (.invokevirtual 101, 3) := by decide +kernel
theorem dX11_end_17 : decode cX11_end 17 = .ok (.ifCond .ne 5, 3) := by decide +kernel
theorem dX11_end_20 : decode cX11_end 20 = .ok (.iconst 0, 1) := by decide +kernel
theorem dX11_end_21 : decode cX11_end 21 = .ok (.ireturn, 1) := by decide +kernel
theorem dX11_end_22 : decode cX11_end 22 = .ok (.aload_n 0, 1) := by decide +kernel
theorem dX11_end_23 : decode cX11_end 23 = .ok (.iload_n 1, 1) := by decide +kernel
theorem dX11_end_24 : decode cX11_end 24 = .ok (.putfield 272, 3) := by decide +kernel
theorem dX11_end_27 : decode cX11_end 27 = .ok (.iconst 1, 1) := by decide +kernel
theorem dX11_end_28 : decode cX11_end 28 = .ok (.ireturn, 1) := by decide +kernel
theorem dX11_here_0 : decode cX11_here 0 = .ok (.aload_n 0, 1) := by decide +kernel
theorem dX11_here_1 : decode cX11_here 1 = .ok (.getfield 278, 3) := by decide +kernel
theorem dX11_here_4 : decode cX11_here 4 = .ok (.aload_n 0, 1) := by decide +kernel
theorem dX11_here_5 : decode cX11_here 5 = .ok (.getfield 281, 3) := by decide +kernel
theorem dX11_here_8 : decode cX11_here 8 = .ok (.if_icmp .ge 15, 3) := by decide +kernel
theorem dX11_here_11 : decode cX11_here 11 = .ok (.aload_n 0, 1) := by decide +kernel
theorem dX11_here_12 : decode cX11_here 12 = .ok (.getfield 46, 3) := by decide +kernel
theorem dX11_here_15 : decode cX11_here 15 = .ok (.aload_n 0, 1) := by decide +kernel
theorem dX11_here_16 : decode cX11_here 16 = .ok (.getfield 278, 3) := by decide +kernel
theorem dX11_here_19 : decode cX11_here 19 = .ok (.iaload, 1) := by decide +kernel
theorem dX11_here_20 : decode cX11_here 20 = .ok (.goto 4, 3) := by decide +kernel
theorem dX11_here_23 : decode cX11_here 23 = .ok (.iconst (-1), 1) := by decide +kernel
theorem dX11_here_24 : decode cX11_here 24 = .ok (.ireturn, 1) := by decide +kernel
theorem dX11_behindBlanks_0 : decode cX11_behindBlanks 0 = .ok (.aload_n 0, 1) := by decide +kernel
theorem dX11_behindBlanks_1 : decode cX11_behindBlanks 1 = .ok (.invokevirtual 284, 3) := by decide +kernel
theorem dX11_behindBlanks_4 : decode cX11_behindBlanks 4 = .ok (.bipush 32, 2) := by decide +kernel
theorem dX11_behindBlanks_6 : decode cX11_behindBlanks 6 = .ok (.if_icmp .ne 16, 3) := by decide +kernel
theorem dX11_behindBlanks_9 : decode cX11_behindBlanks 9 = .ok (.aload_n 0, 1) := by decide +kernel
theorem dX11_behindBlanks_10 : decode cX11_behindBlanks 10 = .ok (.aload_n 0, 1) := by decide +kernel
theorem dX11_behindBlanks_11 : decode cX11_behindBlanks 11 = .ok (.getfield 278, 3) := by decide +kernel
theorem dX11_behindBlanks_14 : decode cX11_behindBlanks 14 = .ok (.iconst 1, 1) := by decide +kernel
theorem dX11_behindBlanks_15 : decode cX11_behindBlanks 15 = .ok (.iadd, 1) := by decide +kernel
theorem dX11_behindBlanks_16 : decode cX11_behindBlanks 16 = .ok (.putfield 278, 3) := by decide +kernel
theorem dX11_behindBlanks_19 : decode cX11_behindBlanks 19 = .ok (.goto (-19), 3) := by decide +kernel
theorem dX11_behindBlanks_22 : decode cX11_behindBlanks 22 = .ok (.aload_n 0, 1) := by decide +kernel
theorem dX11_behindBlanks_23 : decode cX11_behindBlanks 23 = .ok (.invokevirtual 284, 3) := by decide +kernel
theorem dX11_behindBlanks_26 : decode cX11_behindBlanks 26 = .ok (.ireturn, 1) := by decide +kernel
theorem dX11_isDigit_0 : decode cX11_isDigit 0 = .ok (.iload_n 1, 1) := by decide +kernel
theorem dX11_isDigit_1 : decode cX11_isDigit 1 = .ok (.bipush 48, 2) := by decide +kernel
theorem dX11_isDigit_3 : decode cX11_isDigit 3 = .ok (.if_icmp .lt 13, 3) := by decide +kernel
theorem dX11_isDigit_6 : decode cX11_isDigit 6 = .ok (.iload_n 1, 1) := by decide +kernel
theorem dX11_isDigit_7 : decode cX11_isDigit 7 = .ok (.bipush 57, 2) := by decide +kernel
theorem dX11_isDigit_9 : decode cX11_isDigit 9 = .ok (.if_icmp .gt 7, 3) := by decide +kernel
theorem dX11_isDigit_12 : decode cX11_isDigit 12 = .ok (.iconst 1, 1) := by decide +kernel
theorem dX11_isDigit_13 : decode cX11_isDigit 13 = .ok (.goto 4, 3) := by decide +kernel
theorem dX11_isDigit_16 : decode cX11_isDigit 16 = .ok (.iconst 0, 1) := by decide +kernel
theorem dX11_isDigit_17 : decode cX11_isDigit 17 = .ok (.ireturn, 1) := by decide +kernel
theorem dX11_isWrong_0 : decode cX11_isWrong 0 = .ok (.aload_n 0, 1) := by decide +kernel
theorem dX11_isWrong_1 : decode cX11_isWrong 1 = .ok (.getfield 49, 3) := by decide +kernel
theorem dX11_isWrong_4 : decode cX11_isWrong 4 = .ok (.iconst (-1), 1) := by decide +kernel
theorem dX11_isWrong_5 : decode cX11_isWrong 5 = .ok (.if_icmp .eq 7, 3) := by decide +kernel
theorem dX11_isWrong_8 : decode cX11_isWrong 8 = .ok (.iconst 1, 1) := by decide +kernel
theorem dX11_isWrong_9 : decode cX11_isWrong 9 = .ok (.goto 4, 3) := by decide +kernel
theorem dX11_isWrong_12 : decode cX11_isWrong 12 = .ok (.iconst 0, 1) := by decide +kernel
theorem dX11_isWrong_13 : decode cX11_isWrong 13 = .ok (.ireturn, 1) := by decide +kernel
theorem dX11_errs_0 : decode cX11_errs 0 = .ok (.aload_n 0, 1) := by decide +kernel
theorem dX11_errs_1 : decode cX11_errs 1 = .ok (.invokevirtual 287, 3) := by decide +kernel
theorem dX11_errs_4 : decode cX11_errs 4 = .ok (.ifCond .eq 4, 3) := by decide +kernel
theorem dX11_errs_7 : decode cX11_errs 7 = .ok (.return_, 1) := by decide +kernel
theorem dX11_errs_8 : decode cX11_errs 8 = .ok (.aload_n 0, 1) := by decide +kernel
theorem dX11_errs_9 : decode cX11_errs 9 = .ok (.iload_n 1, 1) := by decide +kernel
theorem dX11_errs_10 : decode cX11_errs 10 = .ok (.putfield 290, 3) := by decide +kernel
theorem dX11_errs_13 : decode cX11_errs 13 = .ok (.aload_n 0, 1) := by decide +kernel
theorem dX11_errs_14 : decode cX11_errs 14 = .ok (.iload_n 2, 1) := by decide +kernel
theorem dX11_errs_15 : decode cX11_errs 15 = .ok (.putfield 49, 3) := by decide +kernel
theorem dX11_errs_18 : decode cX11_errs 18 = .ok (.return_, 1) := by decide +kernel
theorem dX11_checks_0 : decode cX11_checks 0 = .ok (.aload_n 0, 1) := by decide +kernel
theorem dX11_checks_1 : decode cX11_checks 1 = .ok (.getfield 52, 3) := by decide +kernel
theorem dX11_checks_4 : decode cX11_checks 4 = .ok (.iconst (-1), 1) := by decide +kernel
theorem dX11_checks_5 : decode cX11_checks 5 = .ok (.if_icmp .eq 9, 3) := by decide +kernel
theorem dX11_checks_8 : decode cX11_checks 8 = .ok (.aload_n 0, 1) := by decide +kernel
theorem dX11_checks_9 : decode cX11_checks 9 = .ok (.iload_n 1, 1) := by decide +kernel
theorem dX11_checks_10 : decode cX11_checks 10 = .ok (.invokevirtual 190, 3) := by decide +kernel
theorem dX11_checks_13 : decode cX11_checks 13 = .ok (.return_, 1) := by decide +kernel
theorem dX11_checks_14 : decode cX11_checks 14 = .ok (.aload_n 0, 1) := by decide +kernel
theorem dX11_checks_15 : decode cX11_checks 15 = .ok (.iload_n 1, 1) := by decide +kernel
theorem dX11_checks_16 : decode cX11_checks 16 = .ok (.invokevirtual 225, 3) := by decide +kernel
theorem dX11_checks_19 : decode cX11_checks 19 = .ok (.ifCond .eq 4, 3) := by decide +kernel
theorem dX11_checks_22 : decode cX11_checks 22 = .ok (.return_, 1) := by decide +kernel
theorem dX11_checks_23 : decode cX11_checks 23 = .ok (.aload_n 0, 1) := by decide +kernel
theorem dX11_checks_24 : decode cX11_checks 24 = .ok (.aload_n 0, 1) := by decide +kernel
theorem dX11_checks_25 : decode cX11_checks 25 = .ok (.getfield 293, 3) := by decide +kernel
theorem dX11_checks_28 : decode cX11_checks 28 = .ok (.putfield 52, 3) := by decide +kernel
theorem dX11_checks_31 : decode cX11_checks 31 = .ok (.aload_n 0, 1) := by decide +kernel
theorem dX11_checks_32 : decode cX11_checks 32 = .ok (.iload_n 1, 1) := by decide +kernel
theorem dX11_checks_33 : decode cX11_checks 33 = .ok (.invokevirtual 190, 3) := by decide +kernel
theorem dX11_checks_36 : decode cX11_checks 36 = .ok (.return_, 1) := by decide +kernel
theorem dX11_isFactor_0 : decode cX11_isFactor 0 = .ok (.iload_n 1, 1) := by decide +kernel
theorem dX11_isFactor_1 : decode cX11_isFactor 1 = .ok (.bipush 97, 2) := by decide +kernel
theorem dX11_isFactor_3 : decode cX11_isFactor 3 = .ok (.if_icmp .lt 9, 3) := by decide +kernel
theorem dX11_isFactor_6 : decode cX11_isFactor 6 = .ok (.iload_n 1, 1) := by decide +kernel
theorem dX11_isFactor_7 : decode cX11_isFactor 7 = .ok (.bipush 102, 2) := by decide +kernel
theorem dX11_isFactor_9 : decode cX11_isFactor 9 = .ok (.if_icmp .le 21, 3) := by decide +kernel
theorem dX11_isFactor_12 : decode cX11_isFactor 12 = .ok (.iload_n 1, 1) := by decide +kernel
theorem dX11_isFactor_13 : decode cX11_isFactor 13 = .ok (.bipush 82, 2) := by decide +kernel
theorem dX11_isFactor_15 : decode cX11_isFactor 15 = .ok (.if_icmp .eq 15, 3) := by decide +kernel
theorem dX11_isFactor_18 : decode cX11_isFactor 18 = .ok (.iload_n 1, 1) := by decide +kernel
theorem dX11_isFactor_19 : decode cX11_isFactor 19 = .ok (.bipush 40, 2) := by decide +kernel
theorem dX11_isFactor_21 : decode cX11_isFactor 21 = .ok (.if_icmp .eq 9, 3) := by decide +kernel
theorem dX11_isFactor_24 : decode cX11_isFactor 24 = .ok (.iload_n 1, 1) := by decide +kernel
theorem dX11_isFactor_25 : decode cX11_isFactor 25 = .ok (.bipush 91, 2) := by decide +kernel
theorem dX11_isFactor_27 : decode cX11_isFactor 27 = .ok (.if_icmp .ne 7, 3) := by decide +kernel
theorem dX11_isFactor_30 : decode cX11_isFactor 30 = .ok (.iconst 1, 1) := by decide +kernel
theorem dX11_isFactor_31 : decode cX11_isFactor 31 = .ok (.goto 4, 3) := by decide +kernel
theorem dX11_isFactor_34 : decode cX11_isFactor 34 = .ok (.iconst 0, 1) := by decide +kernel
theorem dX11_isFactor_35 : decode cX11_isFactor 35 = .ok (.ireturn, 1) := by decide +kernel
theorem dX11_readFactor_0 : decode cX11_readFactor 0 = .ok (.aload_n 0, 1) := by decide +kernel
theorem dX11_readFactor_1 : decode cX11_readFactor 1 = .ok (.invokevirtual 284, 3) := by decide +kernel
theorem dX11_readFactor_4 : decode cX11_readFactor 4 = .ok (.istore_n 2, 1) := by decide +kernel
theorem dX11_readFactor_5 : decode cX11_readFactor 5 = .ok (.iload_n 2, 1) := by decide +kernel
theorem dX11_readFactor_6 : decode cX11_readFactor 6 = .ok (.bipush 97, 2) := by decide +kernel
theorem dX11_readFactor_8 : decode cX11_readFactor 8 = .ok (.if_icmp .lt 58, 3) := by decide +kernel
theorem dX11_readFactor_11 : decode cX11_readFactor 11 = .ok (.iload_n 2, 1) := by decide +kernel
theorem dX11_readFactor_12 : decode cX11_readFactor 12 = .ok (.bipush 102, 2) := by decide +kernel
theorem dX11_readFactor_14 : decode cX11_readFactor 14 = .ok (.if_icmp .gt 52, 3) := by decide +kernel
theorem dX11_readFactor_17 : decode cX11_readFactor 17 = .ok (.iload_n 2, 1) := by decide +kernel
theorem dX11_readFactor_18 : decode cX11_readFactor 18 = .ok (.bipush 97, 2) := by decide +kernel
theorem dX11_readFactor_20 : decode cX11_readFactor 20 = .ok (.isub, 1) := by decide +kernel
theorem dX11_readFactor_21 : decode cX11_readFactor 21 = .ok (.aload_n 0, 1) := by decide +kernel
theorem dX11_readFactor_22 : decode cX11_readFactor 22 = .ok (.invokevirtual 88, 3) := by decide +kernel
theorem dX11_readFactor_25 : decode cX11_readFactor 25 = .ok (.if_icmp .lt 13, 3) := by decide +kernel
theorem dX11_readFactor_28 : decode cX11_readFactor 28 = .ok (.aload_n 0, 1) := by decide +kernel
theorem dX11_readFactor_29 : decode cX11_readFactor 29 = .ok (.iconst 3, 1) := by decide +kernel
theorem dX11_readFactor_30 : decode cX11_readFactor 30 = .ok (.aload_n 0, 1) := by decide +kernel
theorem dX11_readFactor_31 : decode cX11_readFactor 31 = .ok (.getfield 278, 3) := by decide +kernel
theorem dX11_readFactor_34 : decode cX11_readFactor 34 = .ok (.invokevirtual 296, 3) := by decide +kernel
theorem dX11_readFactor_37 : decode cX11_readFactor 37 = .ok (.return_, 1) := by decide +kernel
theorem dX11_readFactor_38 : decode cX11_readFactor 38 = .ok (.aload_n 0, 1) := by decide +kernel
theorem dX11_readFactor_39 : decode cX11_readFactor 39 = .ok (.iload_n 1, 1) := by decide +kernel
theorem dX11_readFactor_40 : decode cX11_readFactor 40 = .ok (.invokevirtual 190, 3) := by decide +kernel
theorem dX11_readFactor_43 : decode cX11_readFactor 43 = .ok (.aload_n 0, 1) := by decide +kernel
theorem dX11_readFactor_44 : decode cX11_readFactor 44 = .ok (.iload_n 1, 1) := by decide +kernel
theorem dX11_readFactor_45 : decode cX11_readFactor 45 = .ok (.iload_n 2, 1) := by decide +kernel
theorem dX11_readFactor_46 : decode cX11_readFactor 46 = .ok (.bipush 97, 2) := by decide +kernel
theorem dX11_readFactor_48 : decode cX11_readFactor 48 = .ok (.isub, 1) := by decide +kernel
theorem dX11_readFactor_49 : decode cX11_readFactor 49 = .ok (.lconst 1, 1) := by decide +kernel
theorem dX11_readFactor_50 : decode cX11_readFactor 50 = .ok (.invokevirtual 162, 3) := by decide +kernel
theorem dX11_readFactor_53 : decode cX11_readFactor 53 = .ok (.aload_n 0, 1) := by decide +kernel
theorem dX11_readFactor_54 : decode cX11_readFactor 54 = .ok (.aload_n 0, 1) := by decide +kernel
theorem dX11_readFactor_55 : decode cX11_readFactor 55 = .ok (.getfield 278, 3) := by decide +kernel
theorem dX11_readFactor_58 : decode cX11_readFactor 58 = .ok (.iconst 1, 1) := by decide +kernel
theorem dX11_readFactor_59 : decode cX11_readFactor 59 = .ok (.iadd, 1) := by decide +kernel
theorem dX11_readFactor_60 : decode cX11_readFactor 60 = .ok (.putfield 278, 3) := by decide +kernel
theorem dX11_readFactor_63 : decode cX11_readFactor 63 = .ok (.goto 71, 3) := by decide +kernel
theorem dX11_readFactor_66 : decode cX11_readFactor 66 = .ok (.iload_n 2, 1) := by decide +kernel
theorem dX11_readFactor_67 : decode cX11_readFactor 67 = .ok (.bipush 82, 2) := by decide +kernel
theorem dX11_readFactor_69 : decode cX11_readFactor 69 = .ok (.if_icmp .ne 59, 3) := by decide +kernel
theorem dX11_readFactor_72 : decode cX11_readFactor 72 = .ok (.aload_n 0, 1) := by decide +kernel
theorem dX11_readFactor_73 : decode cX11_readFactor 73 = .ok (.aload_n 0, 1) := by decide +kernel
theorem dX11_readFactor_74 : decode cX11_readFactor 74 = .ok (.getfield 278, 3) := by decide +kernel
theorem dX11_readFactor_77 : decode cX11_readFactor 77 = .ok (.iconst 1, 1) := by decide +kernel
theorem dX11_readFactor_78 : decode cX11_readFactor 78 = .ok (.iadd, 1) := by decide +kernel
theorem dX11_readFactor_79 : decode cX11_readFactor 79 = .ok (.putfield 278, 3) := by decide +kernel
theorem dX11_readFactor_82 : decode cX11_readFactor 82 = .ok (.aload_n 0, 1) := by decide +kernel
theorem dX11_readFactor_83 : decode cX11_readFactor 83 = .ok (.aload_n 0, 1) := by decide +kernel
theorem dX11_readFactor_84 : decode cX11_readFactor 84 = .ok (.invokevirtual 284, 3) := by decide +kernel
theorem dX11_readFactor_87 : decode cX11_readFactor 87 = .ok (.invokevirtual 299, 3) := by decide +kernel
theorem dX11_readFactor_90 : decode cX11_readFactor 90 = .ok (.ifCond .ne 13, 3) := by decide +kernel
theorem dX11_readFactor_93 : decode cX11_readFactor 93 = .ok (.aload_n 0, 1) := by decide +kernel
theorem dX11_readFactor_94 : decode cX11_readFactor 94 = .ok (.iconst 1, 1) := by decide +kernel
theorem dX11_readFactor_95 : decode cX11_readFactor 95 = .ok (.aload_n 0, 1) := by decide +kernel
theorem dX11_readFactor_96 : decode cX11_readFactor 96 = .ok (.getfield 278, 3) := by decide +kernel
theorem dX11_readFactor_99 : decode cX11_readFactor 99 = .ok (.invokevirtual 296, 3) := by decide +kernel
theorem dX11_readFactor_102 : decode cX11_readFactor 102 = .ok (.return_, 1) := by decide +kernel
theorem dX11_readFactor_103 : decode cX11_readFactor 103 = .ok (.aload_n 0, 1) := by decide +kernel
theorem dX11_readFactor_104 : decode cX11_readFactor 104 = .ok (.iload_n 1, 1) := by decide +kernel
theorem dX11_readFactor_105 : decode cX11_readFactor 105 = .ok (.aload_n 0, 1) := by decide +kernel
theorem dX11_readFactor_106 : decode cX11_readFactor 106 = .ok (.invokevirtual 284, 3) := by decide +kernel
theorem dX11_readFactor_109 : decode cX11_readFactor 109 = .ok (.bipush 48, 2) := by decide +kernel
theorem dX11_readFactor_111 : decode cX11_readFactor 111 = .ok (.isub, 1) := by decide +kernel
theorem dX11_readFactor_112 : decode cX11_readFactor 112 = .ok (.invokevirtual 241, 3) := by decide +kernel
theorem dX11_readFactor_115 : decode cX11_readFactor 115 = .ok (.aload_n 0, 1) := by decide +kernel
theorem dX11_readFactor_116 : decode cX11_readFactor 116 = .ok (.aload_n 0, 1) := by decide +kernel
theorem dX11_readFactor_117 : decode cX11_readFactor 117 = .ok (.getfield 278, 3) := by decide +kernel
theorem dX11_readFactor_120 : decode cX11_readFactor 120 = .ok (.iconst 1, 1) := by decide +kernel
theorem dX11_readFactor_121 : decode cX11_readFactor 121 = .ok (.iadd, 1) := by decide +kernel
theorem dX11_readFactor_122 : decode cX11_readFactor 122 = .ok (.putfield 278, 3) := by decide +kernel
theorem dX11_readFactor_125 : decode cX11_readFactor 125 = .ok (.goto 9, 3) := by decide +kernel
theorem dX11_readFactor_128 : decode cX11_readFactor 128 = .ok (.aload_n 0, 1) := by decide +kernel
theorem dX11_readFactor_129 : decode cX11_readFactor 129 = .ok (.iload_n 1, 1) := by decide +kernel
theorem dX11_readFactor_130 : decode cX11_readFactor 130 = .ok (.iload_n 2, 1) := by decide +kernel
theorem dX11_readFactor_131 : decode cX11_readFactor 131 = .ok (.invokevirtual 302, 3) := by decide +kernel
theorem dX11_readFactor_134 : decode cX11_readFactor 134 = .ok (.aload_n 0, 1) := by decide +kernel
theorem dX11_readFactor_135 : decode cX11_readFactor 135 = .ok (.aload_n 0, 1) := by decide +kernel
theorem dX11_readFactor_136 : decode cX11_readFactor 136 = .ok (.getfield 278, 3) := by decide +kernel
theorem dX11_readFactor_139 : decode cX11_readFactor 139 = .ok (.putfield 293, 3) := by decide +kernel
theorem dX11_readFactor_142 : decode cX11_readFactor 142 = .ok (.return_, 1) := by decide +kernel
theorem dX11_must_0 : decode cX11_must 0 = .ok (.aload_n 0, 1) := by decide +kernel
theorem dX11_must_1 : decode cX11_must 1 = .ok (.invokevirtual 287, 3) := by decide +kernel
theorem dX11_must_4 : decode cX11_must 4 = .ok (.ifCond .eq 4, 3) := by decide +kernel
theorem dX11_must_7 : decode cX11_must 7 = .ok (.return_, 1) := by decide +kernel
theorem dX11_must_8 : decode cX11_must 8 = .ok (.aload_n 0, 1) := by decide +kernel
theorem dX11_must_9 : decode cX11_must 9 = .ok (.invokevirtual 305, 3) := by decide +kernel
theorem dX11_must_12 : decode cX11_must 12 = .ok (.iload_n 1, 1) := by decide +kernel
theorem dX11_must_13 : decode cX11_must 13 = .ok (.if_icmp .eq 15, 3) := by decide +kernel
theorem dX11_must_16 : decode cX11_must 16 = .ok (.aload_n 0, 1) := by decide +kernel
theorem dX11_must_17 : decode cX11_must 17 = .ok (.iconst 1, 1) := by decide +kernel
theorem dX11_must_18 : decode cX11_must 18 = .ok (.aload_n 0, 1) := by decide +kernel
theorem dX11_must_19 : decode cX11_must 19 = .ok (.getfield 278, 3) := by decide +kernel
theorem dX11_must_22 : decode cX11_must 22 = .ok (.invokevirtual 296, 3) := by decide +kernel
theorem dX11_must_25 : decode cX11_must 25 = .ok (.goto 13, 3) := by decide +kernel
theorem dX11_must_28 : decode cX11_must 28 = .ok (.aload_n 0, 1) := by decide +kernel
theorem dX11_must_29 : decode cX11_must 29 = .ok (.aload_n 0, 1) := by decide +kernel
theorem dX11_must_30 : decode cX11_must 30 = .ok (.getfield 278, 3) := by decide +kernel
theorem dX11_must_33 : decode cX11_must 33 = .ok (.iconst 1, 1) := by decide +kernel
theorem dX11_must_34 : decode cX11_must 34 = .ok (.iadd, 1) := by decide +kernel
theorem dX11_must_35 : decode cX11_must 35 = .ok (.putfield 278, 3) := by decide +kernel
theorem dX11_must_38 : decode cX11_must 38 = .ok (.return_, 1) := by decide +kernel
theorem dX11_readOpen_0 : decode cX11_readOpen 0 = .ok (.aload_n 0, 1) := by decide +kernel
theorem dX11_readOpen_1 : decode cX11_readOpen 1 = .ok (.getfield 308, 3) := by decide +kernel
theorem dX11_readOpen_4 : decode cX11_readOpen 4 = .ok (.bipush 8, 2) := by decide +kernel
theorem dX11_readOpen_6 : decode cX11_readOpen 6 = .ok (.if_icmp .ne 13, 3) := by decide +kernel
theorem dX11_readOpen_9 : decode cX11_readOpen 9 = .ok (.aload_n 0, 1) := by decide +kernel
theorem dX11_readOpen_10 : decode cX11_readOpen 10 = .ok (.iconst 4, 1) := by decide +kernel
theorem dX11_readOpen_11 : decode cX11_readOpen 11 = .ok (.aload_n 0, 1) := by decide +kernel
theorem dX11_readOpen_12 : decode cX11_readOpen 12 = .ok (.getfield 278, 3) := by decide +kernel
theorem dX11_readOpen_15 : decode cX11_readOpen 15 = .ok (.invokevirtual 296, 3) := by decide +kernel
theorem dX11_readOpen_18 : decode cX11_readOpen 18 = .ok (.return_, 1) := by decide +kernel
theorem dX11_readOpen_19 : decode cX11_readOpen 19 = .ok (.aload_n 0, 1) := by decide +kernel
theorem dX11_readOpen_20 : decode cX11_readOpen 20 = .ok (.aload_n 0, 1) := by decide +kernel
theorem dX11_readOpen_21 : decode cX11_readOpen 21 = .ok (.getfield 308, 3) := by decide +kernel
theorem dX11_readOpen_24 : decode cX11_readOpen 24 = .ok (.iconst 1, 1) := by decide +kernel
theorem dX11_readOpen_25 : decode cX11_readOpen 25 = .ok (.iadd, 1) := by decide +kernel
theorem dX11_readOpen_26 : decode cX11_readOpen 26 = .ok (.putfield 308, 3) := by decide +kernel
theorem dX11_readOpen_29 : decode cX11_readOpen 29 = .ok (.aload_n 0, 1) := by decide +kernel
theorem dX11_readOpen_30 : decode cX11_readOpen 30 = .ok (.aload_n 0, 1) := by decide +kernel
theorem dX11_readOpen_31 : decode cX11_readOpen 31 = .ok (.getfield 278, 3) := by decide +kernel
theorem dX11_readOpen_34 : decode cX11_readOpen 34 = .ok (.iconst 1, 1) := by decide +kernel
theorem dX11_readOpen_35 : decode cX11_readOpen 35 = .ok (.iadd, 1) := by decide +kernel
theorem dX11_readOpen_36 : decode cX11_readOpen 36 = .ok (.putfield 278, 3) := by decide +kernel
theorem dX11_readOpen_39 : decode cX11_readOpen 39 = .ok (.aload_n 0, 1) := by decide +kernel
theorem dX11_readOpen_40 : decode cX11_readOpen 40 = .ok (.aload_n 0, 1) := by decide +kernel
theorem dX11_readOpen_41 : decode cX11_readOpen 41 = .ok (.getfield 278, 3) := by decide +kernel
theorem dX11_readOpen_44 : decode cX11_readOpen 44 = .ok (.putfield 293, 3) := by decide +kernel
theorem dX11_readOpen_47 : decode cX11_readOpen 47 = .ok (.aload_n 0, 1) := by decide +kernel
theorem dX11_readOpen_48 : decode cX11_readOpen 48 = .ok (.iload_n 1, 1) := by decide +kernel
theorem dX11_readOpen_49 : decode cX11_readOpen 49 = .ok (.invokevirtual 311, 3) := by decide +kernel
theorem dX11_readOpen_52 : decode cX11_readOpen 52 = .ok (.iload_n 2, 1) := by decide +kernel
theorem dX11_readOpen_53 : decode cX11_readOpen 53 = .ok (.bipush 40, 2) := by decide +kernel
theorem dX11_readOpen_55 : decode cX11_readOpen 55 = .ok (.if_icmp .ne 12, 3) := by decide +kernel
theorem dX11_readOpen_58 : decode cX11_readOpen 58 = .ok (.aload_n 0, 1) := by decide +kernel
theorem dX11_readOpen_59 : decode cX11_readOpen 59 = .ok (.bipush 41, 2) := by decide +kernel
theorem dX11_readOpen_61 : decode cX11_readOpen 61 = .ok (.invokevirtual 314, 3) := by decide +kernel
theorem dX11_readOpen_64 : decode cX11_readOpen 64 = .ok (.goto 8, 3) := by decide +kernel
theorem dX11_readOpen_67 : decode cX11_readOpen 67 = .ok (.aload_n 0, 1) := by decide +kernel
theorem dX11_readOpen_68 : decode cX11_readOpen 68 = .ok (.iload_n 1, 1) := by decide +kernel
theorem dX11_readOpen_69 : decode cX11_readOpen 69 = .ok (.invokevirtual 317, 3) := by decide +kernel
theorem dX11_readOpen_72 : decode cX11_readOpen 72 = .ok (.aload_n 0, 1) := by decide +kernel
theorem dX11_readOpen_73 : decode cX11_readOpen 73 = .ok (.aload_n 0, 1) := by decide +kernel
theorem dX11_readOpen_74 : decode cX11_readOpen 74 = .ok (.getfield 308, 3) := by decide +kernel
theorem dX11_readOpen_77 : decode cX11_readOpen 77 = .ok (.iconst 1, 1) := by decide +kernel
theorem dX11_readOpen_78 : decode cX11_readOpen 78 = .ok (.isub, 1) := by decide +kernel
theorem dX11_readOpen_79 : decode cX11_readOpen 79 = .ok (.putfield 308, 3) := by decide +kernel
theorem dX11_readOpen_82 : decode cX11_readOpen 82 = .ok (.return_, 1) := by decide +kernel
theorem dX11_readCommutator_0 : decode cX11_readCommutator 0 = .ok (.iconst 0, 1) := by decide +kernel
theorem dX11_readCommutator_1 : decode cX11_readCommutator 1 = .ok (.istore_n 2, 1) := by decide +kernel
theorem dX11_readCommutator_2 : decode cX11_readCommutator 2 = .ok (.aload_n 0, 1) := by decide +kernel
theorem dX11_readCommutator_3 : decode cX11_readCommutator 3 = .ok (.invokevirtual 287, 3) := by decide +kernel
theorem dX11_readCommutator_6 : decode cX11_readCommutator 6 = .ok (.ifCond .ne 76, 3) := by decide +kernel
theorem dX11_readCommutator_9 : decode cX11_readCommutator 9 = .ok (.iload_n 2, 1) := by decide +kernel
theorem dX11_readCommutator_10 : decode cX11_readCommutator 10 = .ok (.ifCond .eq 12, 3) := by decide +kernel
theorem dX11_readCommutator_13 : decode cX11_readCommutator 13 = .ok (.aload_n 0, 1) := by decide +kernel
theorem dX11_readCommutator_14 : decode cX11_readCommutator 14 = .ok (.invokevirtual 305, 3) := by decide +kernel
theorem dX11_readCommutator_17 : decode cX11_readCommutator 17 = .ok (.bipush 44, 2) := by decide +kernel
theorem dX11_readCommutator_19 : decode cX11_readCommutator 19 = .ok (.if_icmp .ne 63, 3) := by decide +kernel
theorem dX11_readCommutator_22 : decode cX11_readCommutator 22 = .ok (.aload_n 0, 1) := by decide +kernel
theorem dX11_readCommutator_23 : decode cX11_readCommutator 23 = .ok (.bipush 44, 2) := by decide +kernel
theorem dX11_readCommutator_25 : decode cX11_readCommutator 25 = .ok (.invokevirtual 314, 3) := by decide +kernel
theorem dX11_readCommutator_28 : decode cX11_readCommutator 28 = .ok (.aload_n 0, 1) := by decide +kernel
theorem dX11_readCommutator_29 : decode cX11_readCommutator 29 = .ok (.aload_n 0, 1) := by decide +kernel
theorem dX11_readCommutator_30 : decode cX11_readCommutator 30 = .ok (.getfield 278, 3) := by decide +kernel
theorem dX11_readCommutator_33 : decode cX11_readCommutator 33 = .ok (.putfield 293, 3) := by decide +kernel
theorem dX11_readCommutator_36 : decode cX11_readCommutator 36 = .ok (.aload_n 0, 1) := by decide +kernel
theorem dX11_readCommutator_37 : decode cX11_readCommutator 37 = .ok (.iload_n 1, 1) := by decide +kernel
theorem dX11_readCommutator_38 : decode cX11_readCommutator 38 = .ok (.iconst 1, 1) := by decide +kernel
theorem dX11_readCommutator_39 : decode cX11_readCommutator 39 = .ok (.iadd, 1) := by decide +kernel
theorem dX11_readCommutator_40 : decode cX11_readCommutator 40 = .ok (.invokevirtual 311, 3) := by decide +kernel
theorem dX11_readCommutator_43 : decode cX11_readCommutator 43 = .ok (.aload_n 0, 1) := by decide +kernel
theorem dX11_readCommutator_44 : decode cX11_readCommutator 44 = .ok (.invokevirtual 287, 3) := by decide +kernel
theorem dX11_readCommutator_47 : decode cX11_readCommutator 47 = .ok (.ifCond .eq 4, 3) := by decide +kernel
theorem dX11_readCommutator_50 : decode cX11_readCommutator 50 = .ok (.return_, 1) := by decide +kernel
theorem dX11_readCommutator_51 : decode cX11_readCommutator 51 = .ok (.aload_n 0, 1) := by decide +kernel
theorem dX11_readCommutator_52 : decode cX11_readCommutator 52 = .ok (.iload_n 1, 1) := by decide +kernel
theorem dX11_readCommutator_53 : decode cX11_readCommutator 53 = .ok (.iload_n 1, 1) := by decide +kernel
theorem dX11_readCommutator_54 : decode cX11_readCommutator 54 = .ok (.iconst 1, 1) := by decide +kernel
theorem dX11_readCommutator_55 : decode cX11_readCommutator 55 = .ok (.iadd, 1) := by decide +kernel
theorem dX11_readCommutator_56 : decode cX11_readCommutator 56 = .ok (.iload_n 1, 1) := by decide +kernel
theorem dX11_readCommutator_57 : decode cX11_readCommutator 57 = .ok (.iconst 2, 1) := by decide +kernel
theorem dX11_readCommutator_58 : decode cX11_readCommutator 58 = .ok (.iadd, 1) := by decide +kernel
theorem dX11_readCommutator_59 : decode cX11_readCommutator 59 = .ok (.invokevirtual 254, 3) := by decide +kernel
theorem dX11_readCommutator_62 : decode cX11_readCommutator 62 = .ok (.aload_n 0, 1) := by decide +kernel
theorem dX11_readCommutator_63 : decode cX11_readCommutator 63 = .ok (.iload_n 1, 1) := by decide +kernel
theorem dX11_readCommutator_64 : decode cX11_readCommutator 64 = .ok (.iconst 2, 1) := by decide +kernel
theorem dX11_readCommutator_65 : decode cX11_readCommutator 65 = .ok (.iadd, 1) := by decide +kernel
theorem dX11_readCommutator_66 : decode cX11_readCommutator 66 = .ok (.iload_n 1, 1) := by decide +kernel
theorem dX11_readCommutator_67 : decode cX11_readCommutator 67 = .ok (.invokevirtual 193, 3) := by decide +kernel
theorem dX11_readCommutator_70 : decode cX11_readCommutator 70 = .ok (.aload_n 0, 1) := by decide +kernel
theorem dX11_readCommutator_71 : decode cX11_readCommutator 71 = .ok (.iload_n 1, 1) := by decide +kernel
theorem dX11_readCommutator_72 : decode cX11_readCommutator 72 = .ok (.invokevirtual 320, 3) := by decide +kernel
theorem dX11_readCommutator_75 : decode cX11_readCommutator 75 = .ok (.iload_n 2, 1) := by decide +kernel
theorem dX11_readCommutator_76 : decode cX11_readCommutator 76 = .ok (.iconst 1, 1) := by decide +kernel
theorem dX11_readCommutator_77 : decode cX11_readCommutator 77 = .ok (.iadd, 1) := by decide +kernel
theorem dX11_readCommutator_78 : decode cX11_readCommutator 78 = .ok (.istore_n 2, 1) := by decide +kernel
theorem dX11_readCommutator_79 : decode cX11_readCommutator 79 = .ok (.goto (-77), 3) := by decide +kernel
theorem dX11_readCommutator_82 : decode cX11_readCommutator 82 = .ok (.aload_n 0, 1) := by decide +kernel
theorem dX11_readCommutator_83 : decode cX11_readCommutator 83 = .ok (.bipush 93, 2) := by decide +kernel
theorem dX11_readCommutator_85 : decode cX11_readCommutator 85 = .ok (.invokevirtual 314, 3) := by decide +kernel
theorem dX11_readCommutator_88 : decode cX11_readCommutator 88 = .ok (.return_, 1) := by decide +kernel
theorem dX11_readPower_0 : decode cX11_readPower 0 = .ok (.aload_n 0, 1) := by decide +kernel
theorem dX11_readPower_1 : decode cX11_readPower 1 = .ok (.invokevirtual 287, 3) := by decide +kernel
theorem dX11_readPower_4 : decode cX11_readPower 4 = .ok (.ifCond .eq 4, 3) := by decide +kernel
theorem dX11_readPower_7 : decode cX11_readPower 7 = .ok (.return_, 1) := by decide +kernel
theorem dX11_readPower_8 : decode cX11_readPower 8 = .ok (.aload_n 0, 1) := by decide +kernel
theorem dX11_readPower_9 : decode cX11_readPower 9 = .ok (.getfield 278, 3) := by decide +kernel
theorem dX11_readPower_12 : decode cX11_readPower 12 = .ok (.istore_n 2, 1) := by decide +kernel
theorem dX11_readPower_13 : decode cX11_readPower 13 = .ok (.aload_n 0, 1) := by decide +kernel
theorem dX11_readPower_14 : decode cX11_readPower 14 = .ok (.invokevirtual 305, 3) := by decide +kernel
theorem dX11_readPower_17 : decode cX11_readPower 17 = .ok (.bipush 94, 2) := by decide +kernel
theorem dX11_readPower_19 : decode cX11_readPower 19 = .ok (.if_icmp .eq 9, 3) := by decide +kernel
theorem dX11_readPower_22 : decode cX11_readPower 22 = .ok (.aload_n 0, 1) := by decide +kernel
theorem dX11_readPower_23 : decode cX11_readPower 23 = .ok (.iload_n 2, 1) := by decide +kernel
theorem dX11_readPower_24 : decode cX11_readPower 24 = .ok (.putfield 278, 3) := by decide +kernel
theorem dX11_readPower_27 : decode cX11_readPower 27 = .ok (.return_, 1) := by decide +kernel
theorem dX11_readPower_28 : decode cX11_readPower 28 = .ok (.aload_n 0, 1) := by decide +kernel
theorem dX11_readPower_29 : decode cX11_readPower 29 = .ok (.aload_n 0, 1) := by decide +kernel
theorem dX11_readPower_30 : decode cX11_readPower 30 = .ok (.getfield 278, 3) := by decide +kernel
theorem dX11_readPower_33 : decode cX11_readPower 33 = .ok (.iconst 1, 1) := by decide +kernel
theorem dX11_readPower_34 : decode cX11_readPower 34 = .ok (.iadd, 1) := by decide +kernel
theorem dX11_readPower_35 : decode cX11_readPower 35 = .ok (.putfield 278, 3) := by decide +kernel
theorem dX11_readPower_38 : decode cX11_readPower 38 = .ok (.aload_n 0, 1) := by decide +kernel
theorem dX11_readPower_39 : decode cX11_readPower 39 = .ok (.invokevirtual 305, 3) := by decide +kernel
theorem dX11_readPower_42 : decode cX11_readPower 42 = .ok (.bipush 45, 2) := by decide +kernel
theorem dX11_readPower_44 : decode cX11_readPower 44 = .ok (.if_icmp .ne 7, 3) := by decide +kernel
theorem dX11_readPower_47 : decode cX11_readPower 47 = .ok (.iconst 1, 1) := by decide +kernel
theorem dX11_readPower_48 : decode cX11_readPower 48 = .ok (.goto 4, 3) := by decide +kernel
theorem dX11_readPower_51 : decode cX11_readPower 51 = .ok (.iconst 0, 1) := by decide +kernel
theorem dX11_readPower_52 : decode cX11_readPower 52 = .ok (.istore_n 3, 1) := by decide +kernel
theorem dX11_readPower_53 : decode cX11_readPower 53 = .ok (.iload_n 3, 1) := by decide +kernel
theorem dX11_readPower_54 : decode cX11_readPower 54 = .ok (.ifCond .eq 18, 3) := by decide +kernel
theorem dX11_readPower_57 : decode cX11_readPower 57 = .ok (.aload_n 0, 1) := by decide +kernel
theorem dX11_readPower_58 : decode cX11_readPower 58 = .ok (.aload_n 0, 1) := by decide +kernel
theorem dX11_readPower_59 : decode cX11_readPower 59 = .ok (.getfield 278, 3) := by decide +kernel
theorem dX11_readPower_62 : decode cX11_readPower 62 = .ok (.iconst 1, 1) := by decide +kernel
theorem dX11_readPower_63 : decode cX11_readPower 63 = .ok (.iadd, 1) := by decide +kernel
theorem dX11_readPower_64 : decode cX11_readPower 64 = .ok (.putfield 278, 3) := by decide +kernel
theorem dX11_readPower_67 : decode cX11_readPower 67 = .ok (.aload_n 0, 1) := by decide +kernel
theorem dX11_readPower_68 : decode cX11_readPower 68 = .ok (.invokevirtual 305, 3) := by decide +kernel
theorem dX11_readPower_71 : decode cX11_readPower 71 = .ok (.pop, 1) := by decide +kernel
theorem dX11_readPower_72 : decode cX11_readPower 72 = .ok (.aload_n 0, 1) := by decide +kernel
theorem dX11_readPower_73 : decode cX11_readPower 73 = .ok (.getfield 278, 3) := by decide +kernel
theorem dX11_readPower_76 : decode cX11_readPower 76 = .ok (.istore 4, 2) := by decide +kernel
theorem dX11_readPower_78 : decode cX11_readPower 78 = .ok (.aload_n 0, 1) := by decide +kernel
theorem dX11_readPower_79 : decode cX11_readPower 79 = .ok (.aload_n 0, 1) := by decide +kernel
theorem dX11_readPower_80 : decode cX11_readPower 80 = .ok (.invokevirtual 284, 3) := by decide +kernel
theorem dX11_readPower_83 : decode cX11_readPower 83 = .ok (.invokevirtual 299, 3) := by decide +kernel
theorem dX11_readPower_86 : decode cX11_readPower 86 = .ok (.ifCond .ne 13, 3) := by decide +kernel
theorem dX11_readPower_89 : decode cX11_readPower 89 = .ok (.aload_n 0, 1) := by decide +kernel
theorem dX11_readPower_90 : decode cX11_readPower 90 = .ok (.iconst 1, 1) := by decide +kernel
theorem dX11_readPower_91 : decode cX11_readPower 91 = .ok (.aload_n 0, 1) := by decide +kernel
theorem dX11_readPower_92 : decode cX11_readPower 92 = .ok (.getfield 278, 3) := by decide +kernel
theorem dX11_readPower_95 : decode cX11_readPower 95 = .ok (.invokevirtual 296, 3) := by decide +kernel
theorem dX11_readPower_98 : decode cX11_readPower 98 = .ok (.return_, 1) := by decide +kernel
theorem dX11_readPower_99 : decode cX11_readPower 99 = .ok (.iconst 0, 1) := by decide +kernel
theorem dX11_readPower_100 : decode cX11_readPower 100 = .ok (.istore 5, 2) := by decide +kernel
theorem dX11_readPower_102 : decode cX11_readPower 102 = .ok (.aload_n 0, 1) := by decide +kernel
theorem dX11_readPower_103 : decode cX11_readPower 103 = .ok (.aload_n 0, 1) := by decide +kernel
theorem dX11_readPower_104 : decode cX11_readPower 104 = .ok (.invokevirtual 284, 3) := by decide +kernel
theorem dX11_readPower_107 : decode cX11_readPower 107 = .ok (.invokevirtual 299, 3) := by decide +kernel
theorem dX11_readPower_110 : decode cX11_readPower 110 = .ok (.ifCond .eq 43, 3) := by decide +kernel
theorem dX11_readPower_113 : decode cX11_readPower 113 = .ok (.iload 5, 2) := by decide +kernel
theorem dX11_readPower_115 : decode cX11_readPower 115 = .ok (.bipush 99, 2) := by decide +kernel
theorem dX11_readPower_117 : decode cX11_readPower 117 = .ok (.if_icmp .le 8, 3) := by decide +kernel
theorem dX11_readPower_120 : decode cX11_readPower 120 = .ok (.iload 5, 2) := by decide +kernel
theorem dX11_readPower_122 : decode cX11_readPower 122 = .ok (.goto 16, 3) := by decide +kernel
theorem dX11_readPower_125 : decode cX11_readPower 125 = .ok (.bipush 10, 2) := by decide +kernel
theorem dX11_readPower_127 : decode cX11_readPower 127 = .ok (.iload 5, 2) := by decide +kernel
theorem dX11_readPower_129 : decode cX11_readPower 129 = .ok (.imul, 1) := by decide +kernel
theorem dX11_readPower_130 : decode cX11_readPower 130 = .ok (.aload_n 0, 1) := by decide +kernel
theorem dX11_readPower_131 : decode cX11_readPower 131 = .ok (.invokevirtual 284, 3) := by decide +kernel
theorem dX11_readPower_134 : decode cX11_readPower 134 = .ok (.iadd, 1) := by decide +kernel
theorem dX11_readPower_135 : decode cX11_readPower 135 = .ok (.bipush 48, 2) := by decide +kernel
theorem dX11_readPower_137 : decode cX11_readPower 137 = .ok (.isub, 1) := by decide +kernel
theorem dX11_readPower_138 : decode cX11_readPower 138 = .ok (.istore 5, 2) := by decide +kernel
theorem dX11_readPower_140 : decode cX11_readPower 140 = .ok (.aload_n 0, 1) := by decide +kernel
theorem dX11_readPower_141 : decode cX11_readPower 141 = .ok (.aload_n 0, 1) := by decide +kernel
theorem dX11_readPower_142 : decode cX11_readPower 142 = .ok (.getfield 278, 3) := by decide +kernel
theorem dX11_readPower_145 : decode cX11_readPower 145 = .ok (.iconst 1, 1) := by decide +kernel
theorem dX11_readPower_146 : decode cX11_readPower 146 = .ok (.iadd, 1) := by decide +kernel
theorem dX11_readPower_147 : decode cX11_readPower 147 = .ok (.putfield 278, 3) := by decide +kernel
theorem dX11_readPower_150 : decode cX11_readPower 150 = .ok (.goto (-48), 3) := by decide +kernel
theorem dX11_readPower_153 : decode cX11_readPower 153 = .ok (.iload 5, 2) := by decide +kernel
theorem dX11_readPower_155 : decode cX11_readPower 155 = .ok (.bipush 99, 2) := by decide +kernel
theorem dX11_readPower_157 : decode cX11_readPower 157 = .ok (.if_icmp .le 11, 3) := by decide +kernel
theorem dX11_readPower_160 : decode cX11_readPower 160 = .ok (.aload_n 0, 1) := by decide +kernel
theorem dX11_readPower_161 : decode cX11_readPower 161 = .ok (.iconst 2, 1) := by decide +kernel
theorem dX11_readPower_162 : decode cX11_readPower 162 = .ok (.iload 4, 2) := by decide +kernel
theorem dX11_readPower_164 : decode cX11_readPower 164 = .ok (.invokevirtual 296, 3) := by decide +kernel
theorem dX11_readPower_167 : decode cX11_readPower 167 = .ok (.return_, 1) := by decide +kernel
theorem dX11_readPower_168 : decode cX11_readPower 168 = .ok (.aload_n 0, 1) := by decide +kernel
theorem dX11_readPower_169 : decode cX11_readPower 169 = .ok (.aload_n 0, 1) := by decide +kernel
theorem dX11_readPower_170 : decode cX11_readPower 170 = .ok (.getfield 278, 3) := by decide +kernel
theorem dX11_readPower_173 : decode cX11_readPower 173 = .ok (.putfield 293, 3) := by decide +kernel
theorem dX11_readPower_176 : decode cX11_readPower 176 = .ok (.aload_n 0, 1) := by decide +kernel
theorem dX11_readPower_177 : decode cX11_readPower 177 = .ok (.iload_n 1, 1) := by decide +kernel
theorem dX11_readPower_178 : decode cX11_readPower 178 = .ok (.iload_n 1, 1) := by decide +kernel
theorem dX11_readPower_179 : decode cX11_readPower 179 = .ok (.iconst 1, 1) := by decide +kernel
theorem dX11_readPower_180 : decode cX11_readPower 180 = .ok (.iadd, 1) := by decide +kernel
theorem dX11_readPower_181 : decode cX11_readPower 181 = .ok (.iload_n 3, 1) := by decide +kernel
theorem dX11_readPower_182 : decode cX11_readPower 182 = .ok (.ifCond .eq 9, 3) := by decide +kernel
theorem dX11_readPower_185 : decode cX11_readPower 185 = .ok (.iload 5, 2) := by decide +kernel
theorem dX11_readPower_187 : decode cX11_readPower 187 = .ok (.ineg, 1) := by decide +kernel
theorem dX11_readPower_188 : decode cX11_readPower 188 = .ok (.goto 5, 3) := by decide +kernel
theorem dX11_readPower_191 : decode cX11_readPower 191 = .ok (.iload 5, 2) := by decide +kernel
theorem dX11_readPower_193 : decode cX11_readPower 193 = .ok (.invokevirtual 251, 3) := by decide +kernel
theorem dX11_readPower_196 : decode cX11_readPower 196 = .ok (.aload_n 0, 1) := by decide +kernel
theorem dX11_readPower_197 : decode cX11_readPower 197 = .ok (.iload_n 1, 1) := by decide +kernel
theorem dX11_readPower_198 : decode cX11_readPower 198 = .ok (.iconst 1, 1) := by decide +kernel
theorem dX11_readPower_199 : decode cX11_readPower 199 = .ok (.iadd, 1) := by decide +kernel
theorem dX11_readPower_200 : decode cX11_readPower 200 = .ok (.iload_n 1, 1) := by decide +kernel
theorem dX11_readPower_201 : decode cX11_readPower 201 = .ok (.invokevirtual 193, 3) := by decide +kernel
theorem dX11_readPower_204 : decode cX11_readPower 204 = .ok (.aload_n 0, 1) := by decide +kernel
theorem dX11_readPower_205 : decode cX11_readPower 205 = .ok (.iload_n 1, 1) := by decide +kernel
theorem dX11_readPower_206 : decode cX11_readPower 206 = .ok (.invokevirtual 320, 3) := by decide +kernel
theorem dX11_readPower_209 : decode cX11_readPower 209 = .ok (.return_, 1) := by decide +kernel
theorem dX11_readWord_0 : decode cX11_readWord 0 = .ok (.aload_n 0, 1) := by decide +kernel
theorem dX11_readWord_1 : decode cX11_readWord 1 = .ok (.iload_n 1, 1) := by decide +kernel
theorem dX11_readWord_2 : decode cX11_readWord 2 = .ok (.invokevirtual 190, 3) := by decide +kernel
theorem dX11_readWord_5 : decode cX11_readWord 5 = .ok (.aload_n 0, 1) := by decide +kernel
theorem dX11_readWord_6 : decode cX11_readWord 6 = .ok (.invokevirtual 287, 3) := by decide +kernel
theorem dX11_readWord_9 : decode cX11_readWord 9 = .ok (.ifCond .ne 52, 3) := by decide +kernel
theorem dX11_readWord_12 : decode cX11_readWord 12 = .ok (.aload_n 0, 1) := by decide +kernel
theorem dX11_readWord_13 : decode cX11_readWord 13 = .ok (.aload_n 0, 1) := by decide +kernel
theorem dX11_readWord_14 : decode cX11_readWord 14 = .ok (.invokevirtual 305, 3) := by decide +kernel
theorem dX11_readWord_17 : decode cX11_readWord 17 = .ok (.invokevirtual 323, 3) := by decide +kernel
theorem dX11_readWord_20 : decode cX11_readWord 20 = .ok (.ifCond .eq 41, 3) := by decide +kernel
theorem dX11_readWord_23 : decode cX11_readWord 23 = .ok (.aload_n 0, 1) := by decide +kernel
theorem dX11_readWord_24 : decode cX11_readWord 24 = .ok (.iload_n 1, 1) := by decide +kernel
theorem dX11_readWord_25 : decode cX11_readWord 25 = .ok (.iconst 1, 1) := by decide +kernel
theorem dX11_readWord_26 : decode cX11_readWord 26 = .ok (.iadd, 1) := by decide +kernel
theorem dX11_readWord_27 : decode cX11_readWord 27 = .ok (.invokevirtual 326, 3) := by decide +kernel
theorem dX11_readWord_30 : decode cX11_readWord 30 = .ok (.aload_n 0, 1) := by decide +kernel
theorem dX11_readWord_31 : decode cX11_readWord 31 = .ok (.iload_n 1, 1) := by decide +kernel
theorem dX11_readWord_32 : decode cX11_readWord 32 = .ok (.iconst 1, 1) := by decide +kernel
theorem dX11_readWord_33 : decode cX11_readWord 33 = .ok (.iadd, 1) := by decide +kernel
theorem dX11_readWord_34 : decode cX11_readWord 34 = .ok (.invokevirtual 329, 3) := by decide +kernel
theorem dX11_readWord_37 : decode cX11_readWord 37 = .ok (.aload_n 0, 1) := by decide +kernel
theorem dX11_readWord_38 : decode cX11_readWord 38 = .ok (.invokevirtual 287, 3) := by decide +kernel
theorem dX11_readWord_41 : decode cX11_readWord 41 = .ok (.ifCond .eq 4, 3) := by decide +kernel
theorem dX11_readWord_44 : decode cX11_readWord 44 = .ok (.return_, 1) := by decide +kernel
theorem dX11_readWord_45 : decode cX11_readWord 45 = .ok (.aload_n 0, 1) := by decide +kernel
theorem dX11_readWord_46 : decode cX11_readWord 46 = .ok (.iload_n 1, 1) := by decide +kernel
theorem dX11_readWord_47 : decode cX11_readWord 47 = .ok (.iload_n 1, 1) := by decide +kernel
theorem dX11_readWord_48 : decode cX11_readWord 48 = .ok (.iconst 1, 1) := by decide +kernel
theorem dX11_readWord_49 : decode cX11_readWord 49 = .ok (.iadd, 1) := by decide +kernel
theorem dX11_readWord_50 : decode cX11_readWord 50 = .ok (.invokevirtual 197, 3) := by decide +kernel
theorem dX11_readWord_53 : decode cX11_readWord 53 = .ok (.aload_n 0, 1) := by decide +kernel
theorem dX11_readWord_54 : decode cX11_readWord 54 = .ok (.iload_n 1, 1) := by decide +kernel
theorem dX11_readWord_55 : decode cX11_readWord 55 = .ok (.invokevirtual 320, 3) := by decide +kernel
theorem dX11_readWord_58 : decode cX11_readWord 58 = .ok (.goto (-53), 3) := by decide +kernel
theorem dX11_readWord_61 : decode cX11_readWord 61 = .ok (.return_, 1) := by decide +kernel
theorem dX11_text_0 : decode cX11_text 0 = .ok (.aload_n 0, 1) := by decide +kernel
theorem dX11_text_1 : decode cX11_text 1 = .ok (.iconst 0, 1) := by decide +kernel
theorem dX11_text_2 : decode cX11_text 2 = .ok (.putfield 1, 3) := by decide +kernel
theorem dX11_text_5 : decode cX11_text 5 = .ok (.aload_n 0, 1) := by decide +kernel
theorem dX11_text_6 : decode cX11_text 6 = .ok (.iconst 0, 1) := by decide +kernel
theorem dX11_text_7 : decode cX11_text 7 = .ok (.putfield 278, 3) := by decide +kernel
theorem dX11_text_10 : decode cX11_text 10 = .ok (.aload_n 0, 1) := by decide +kernel
theorem dX11_text_11 : decode cX11_text 11 = .ok (.aload_n 0, 1) := by decide +kernel
theorem dX11_text_12 : decode cX11_text 12 = .ok (.getfield 272, 3) := by decide +kernel
theorem dX11_text_15 : decode cX11_text 15 = .ok (.putfield 281, 3) := by decide +kernel
theorem dX11_text_18 : decode cX11_text 18 = .ok (.aload_n 0, 1) := by decide +kernel
theorem dX11_text_19 : decode cX11_text 19 = .ok (.iconst 0, 1) := by decide +kernel
theorem dX11_text_20 : decode cX11_text 20 = .ok (.putfield 272, 3) := by decide +kernel
theorem dX11_text_23 : decode cX11_text 23 = .ok (.aload_n 0, 1) := by decide +kernel
theorem dX11_text_24 : decode cX11_text 24 = .ok (.iconst 0, 1) := by decide +kernel
theorem dX11_text_25 : decode cX11_text 25 = .ok (.putfield 290, 3) := by decide +kernel
theorem dX11_text_28 : decode cX11_text 28 = .ok (.aload_n 0, 1) := by decide +kernel
theorem dX11_text_29 : decode cX11_text 29 = .ok (.iconst (-1), 1) := by decide +kernel
theorem dX11_text_30 : decode cX11_text 30 = .ok (.putfield 49, 3) := by decide +kernel
theorem dX11_text_33 : decode cX11_text 33 = .ok (.aload_n 0, 1) := by decide +kernel
theorem dX11_text_34 : decode cX11_text 34 = .ok (.iconst (-1), 1) := by decide +kernel
theorem dX11_text_35 : decode cX11_text 35 = .ok (.putfield 52, 3) := by decide +kernel
theorem dX11_text_38 : decode cX11_text 38 = .ok (.aload_n 0, 1) := by decide +kernel
theorem dX11_text_39 : decode cX11_text 39 = .ok (.iconst 0, 1) := by decide +kernel
theorem dX11_text_40 : decode cX11_text 40 = .ok (.putfield 308, 3) := by decide +kernel
theorem dX11_text_43 : decode cX11_text 43 = .ok (.aload_n 0, 1) := by decide +kernel
theorem dX11_text_44 : decode cX11_text 44 = .ok (.iconst 0, 1) := by decide +kernel
theorem dX11_text_45 : decode cX11_text 45 = .ok (.putfield 293, 3) := by decide +kernel
theorem dX11_text_48 : decode cX11_text 48 = .ok (.aload_n 0, 1) := by decide +kernel
theorem dX11_text_49 : decode cX11_text 49 = .ok (.iload_n 1, 1) := by decide +kernel
theorem dX11_text_50 : decode cX11_text 50 = .ok (.invokevirtual 232, 3) := by decide +kernel
theorem dX11_text_53 : decode cX11_text 53 = .ok (.ifCond .eq 10, 3) := by decide +kernel
theorem dX11_text_56 : decode cX11_text 56 = .ok (.aload_n 0, 1) := by decide +kernel
theorem dX11_text_57 : decode cX11_text 57 = .ok (.invokevirtual 235, 3) := by decide +kernel
theorem dX11_text_60 : decode cX11_text 60 = .ok (.ifCond .ne 5, 3) := by decide +kernel
theorem dX11_text_63 : decode cX11_text 63 = .ok (.iconst 0, 1) := by decide +kernel
theorem dX11_text_64 : decode cX11_text 64 = .ok (.ireturn, 1) := by decide +kernel
theorem dX11_text_65 : decode cX11_text 65 = .ok (.aload_n 0, 1) := by decide +kernel
theorem dX11_text_66 : decode cX11_text 66 = .ok (.bipush 10, 2) := by decide +kernel
theorem dX11_text_68 : decode cX11_text 68 = .ok (.invokevirtual 311, 3) := by decide +kernel
theorem dX11_text_71 : decode cX11_text 71 = .ok (.aload_n 0, 1) := by decide +kernel
theorem dX11_text_72 : decode cX11_text 72 = .ok (.invokevirtual 287, 3) := by decide +kernel
theorem dX11_text_75 : decode cX11_text 75 = .ok (.ifCond .ne 20, 3) := by decide +kernel
theorem dX11_text_78 : decode cX11_text 78 = .ok (.aload_n 0, 1) := by decide +kernel
theorem dX11_text_79 : decode cX11_text 79 = .ok (.invokevirtual 305, 3) := by decide +kernel
theorem dX11_text_82 : decode cX11_text 82 = .ok (.iconst (-1), 1) := by decide +kernel
theorem dX11_text_83 : decode cX11_text 83 = .ok (.if_icmp .eq 12, 3) := by decide +kernel
theorem dX11_text_86 : decode cX11_text 86 = .ok (.aload_n 0, 1) := by decide +kernel
theorem dX11_text_87 : decode cX11_text 87 = .ok (.iconst 1, 1) := by decide +kernel
theorem dX11_text_88 : decode cX11_text 88 = .ok (.aload_n 0, 1) := by decide +kernel
theorem dX11_text_89 : decode cX11_text 89 = .ok (.getfield 278, 3) := by decide +kernel
theorem dX11_text_92 : decode cX11_text 92 = .ok (.invokevirtual 296, 3) := by decide +kernel
theorem dX11_text_95 : decode cX11_text 95 = .ok (.aload_n 0, 1) := by decide +kernel
theorem dX11_text_96 : decode cX11_text 96 = .ok (.getfield 52, 3) := by decide +kernel
theorem dX11_text_99 : decode cX11_text 99 = .ok (.iconst (-1), 1) := by decide +kernel
theorem dX11_text_100 : decode cX11_text 100 = .ok (.if_icmp .eq 44, 3) := by decide +kernel
theorem dX11_text_103 : decode cX11_text 103 = .ok (.aload_n 0, 1) := by decide +kernel
theorem dX11_text_104 : decode cX11_text 104 = .ok (.invokevirtual 287, 3) := by decide +kernel
theorem dX11_text_107 : decode cX11_text 107 = .ok (.ifCond .eq 14, 3) := by decide +kernel
theorem dX11_text_110 : decode cX11_text 110 = .ok (.aload_n 0, 1) := by decide +kernel
theorem dX11_text_111 : decode cX11_text 111 = .ok (.getfield 49, 3) := by decide +kernel
theorem dX11_text_114 : decode cX11_text 114 = .ok (.aload_n 0, 1) := by decide +kernel
theorem dX11_text_115 : decode cX11_text 115 = .ok (.getfield 52, 3) := by decide +kernel
theorem dX11_text_118 : decode cX11_text 118 = .ok (.if_icmp .lt 26, 3) := by decide +kernel
theorem dX11_text_121 : decode cX11_text 121 = .ok (.aload_n 0, 1) := by decide +kernel
theorem dX11_text_122 : decode cX11_text 122 = .ok (.iconst 5, 1) := by decide +kernel
theorem dX11_text_123 : decode cX11_text 123 = .ok (.putfield 290, 3) := by decide +kernel
theorem dX11_text_126 : decode cX11_text 126 = .ok (.aload_n 0, 1) := by decide +kernel
theorem dX11_text_127 : decode cX11_text 127 = .ok (.aload_n 0, 1) := by decide +kernel
theorem dX11_text_128 : decode cX11_text 128 = .ok (.getfield 52, 3) := by decide +kernel
theorem dX11_text_131 : decode cX11_text 131 = .ok (.putfield 49, 3) := by decide +kernel
theorem dX11_text_134 : decode cX11_text 134 = .ok (.aload_n 0, 1) := by decide +kernel
theorem dX11_text_135 : decode cX11_text 135 = .ok (.aload_n 0, 1) := by decide +kernel
theorem dX11_text_136 : decode cX11_text 136 = .ok (.getfield 229, 3) := by decide +kernel
theorem dX11_text_139 : decode cX11_text 139 = .ok (.iconst 1, 1) := by decide +kernel
theorem dX11_text_140 : decode cX11_text 140 = .ok (.iadd, 1) := by decide +kernel
theorem dX11_text_141 : decode cX11_text 141 = .ok (.putfield 229, 3) := by decide +kernel
theorem dX11_text_144 : decode cX11_text 144 = .ok (.aload_n 0, 1) := by decide +kernel
theorem dX11_text_145 : decode cX11_text 145 = .ok (.invokevirtual 287, 3) := by decide +kernel
theorem dX11_text_148 : decode cX11_text 148 = .ok (.ifCond .ne 17, 3) := by decide +kernel
theorem dX11_text_151 : decode cX11_text 151 = .ok (.aload_n 0, 1) := by decide +kernel
theorem dX11_text_152 : decode cX11_text 152 = .ok (.iload_n 1, 1) := by decide +kernel
theorem dX11_text_153 : decode cX11_text 153 = .ok (.bipush 10, 2) := by decide +kernel
theorem dX11_text_155 : decode cX11_text 155 = .ok (.invokevirtual 244, 3) := by decide +kernel
theorem dX11_text_158 : decode cX11_text 158 = .ok (.ifCond .eq 7, 3) := by decide +kernel
theorem dX11_text_161 : decode cX11_text 161 = .ok (.iconst 1, 1) := by decide +kernel
theorem dX11_text_162 : decode cX11_text 162 = .ok (.goto 4, 3) := by decide +kernel
theorem dX11_text_165 : decode cX11_text 165 = .ok (.iconst 0, 1) := by decide +kernel
theorem dX11_text_166 : decode cX11_text 166 = .ok (.ireturn, 1) := by decide +kernel
theorem dX11_fault_0 : decode cX11_fault 0 = .ok (.aload_n 0, 1) := by decide +kernel
theorem dX11_fault_1 : decode cX11_fault 1 = .ok (.iconst 0, 1) := by decide +kernel
theorem dX11_fault_2 : decode cX11_fault 2 = .ok (.putfield 1, 3) := by decide +kernel
theorem dX11_fault_5 : decode cX11_fault 5 = .ok (.iload_n 1, 1) := by decide +kernel
theorem dX11_fault_6 : decode cX11_fault 6 = .ok (.ifCond .ne 10, 3) := by decide +kernel
theorem dX11_fault_9 : decode cX11_fault 9 = .ok (.aload_n 0, 1) := by decide +kernel
theorem dX11_fault_10 : decode cX11_fault 10 = .ok (.getfield 290, 3) := by decide +kernel
theorem dX11_fault_13 : decode cX11_fault 13 = .ok (.goto 16, 3) := by decide +kernel
theorem dX11_fault_16 : decode cX11_fault 16 = .ok (.iload_n 1, 1) := by decide +kernel
theorem dX11_fault_17 : decode cX11_fault 17 = .ok (.iconst 1, 1) := by decide +kernel
theorem dX11_fault_18 : decode cX11_fault 18 = .ok (.if_icmp .ne 10, 3) := by decide +kernel
theorem dX11_fault_21 : decode cX11_fault 21 = .ok (.aload_n 0, 1) := by decide +kernel
theorem dX11_fault_22 : decode cX11_fault 22 = .ok (.getfield 49, 3) := by decide +kernel
theorem dX11_fault_25 : decode cX11_fault 25 = .ok (.goto 4, 3) := by decide +kernel
theorem dX11_fault_28 : decode cX11_fault 28 = .ok (.iconst (-1), 1) := by decide +kernel
theorem dX11_fault_29 : decode cX11_fault 29 = .ok (.ireturn, 1) := by decide +kernel
theorem dX11_collect_0 : decode cX11_collect 0 = .ok (.aload_n 0, 1) := by decide +kernel
theorem dX11_collect_1 : decode cX11_collect 1 = .ok (.iconst 0, 1) := by decide +kernel
theorem dX11_collect_2 : decode cX11_collect 2 = .ok (.putfield 1, 3) := by decide +kernel
theorem dX11_collect_5 : decode cX11_collect 5 = .ok (.aload_n 0, 1) := by decide +kernel
theorem dX11_collect_6 : decode cX11_collect 6 = .ok (.getfield 272, 3) := by decide +kernel
theorem dX11_collect_9 : decode cX11_collect 9 = .ok (.istore_n 1, 1) := by decide +kernel
theorem dX11_collect_10 : decode cX11_collect 10 = .ok (.aload_n 0, 1) := by decide +kernel
theorem dX11_collect_11 : decode cX11_collect 11 = .ok (.iconst 0, 1) := by decide +kernel
theorem dX11_collect_12 : decode cX11_collect 12 = .ok (.putfield 272, 3) := by decide +kernel
theorem dX11_collect_15 : decode cX11_collect 15 = .ok (.iload_n 1, 1) := by decide +kernel
theorem dX11_collect_16 : decode cX11_collect 16 = .ok (.bipush 24, 2) := by decide +kernel
theorem dX11_collect_18 : decode cX11_collect 18 = .ok (.if_icmp .le 5, 3) := by decide +kernel
theorem dX11_collect_21 : decode cX11_collect 21 = .ok (.iconst (-1), 1) := by decide +kernel
theorem dX11_collect_22 : decode cX11_collect 22 = .ok (.ireturn, 1) := by decide +kernel
theorem dX11_collect_23 : decode cX11_collect 23 = .ok (.iconst 0, 1) := by decide +kernel
theorem dX11_collect_24 : decode cX11_collect 24 = .ok (.istore_n 2, 1) := by decide +kernel
theorem dX11_collect_25 : decode cX11_collect 25 = .ok (.iload_n 2, 1) := by decide +kernel
theorem dX11_collect_26 : decode cX11_collect 26 = .ok (.iload_n 1, 1) := by decide +kernel
theorem dX11_collect_27 : decode cX11_collect 27 = .ok (.if_icmp .ge 38, 3) := by decide +kernel
theorem dX11_collect_30 : decode cX11_collect 30 = .ok (.aload_n 0, 1) := by decide +kernel
theorem dX11_collect_31 : decode cX11_collect 31 = .ok (.aload_n 0, 1) := by decide +kernel
theorem dX11_collect_32 : decode cX11_collect 32 = .ok (.getfield 46, 3) := by decide +kernel
theorem dX11_collect_35 : decode cX11_collect 35 = .ok (.iload_n 2, 1) := by decide +kernel
theorem dX11_collect_36 : decode cX11_collect 36 = .ok (.iaload, 1) := by decide +kernel
theorem dX11_collect_37 : decode cX11_collect 37 = .ok (.i2l, 1) := by decide +kernel
theorem dX11_collect_38 : decode cX11_collect 38 = .ok (.ldc2_w 332, 3) := by decide +kernel
theorem dX11_collect_41 : decode cX11_collect 41 = .ok (.bipush 97, 2) := by decide +kernel
theorem dX11_collect_43 : decode cX11_collect 43 = .ok (.aload_n 0, 1) := by decide +kernel
theorem dX11_collect_44 : decode cX11_collect 44 = .ok (.invokevirtual 88, 3) := by decide +kernel
theorem dX11_collect_47 : decode cX11_collect 47 = .ok (.iadd, 1) := by decide +kernel
theorem dX11_collect_48 : decode cX11_collect 48 = .ok (.i2l, 1) := by decide +kernel
theorem dX11_collect_49 : decode cX11_collect 49 = .ok (.lconst 1, 1) := by decide +kernel
theorem dX11_collect_50 : decode cX11_collect 50 = .ok (.lsub, 1) := by decide +kernel
theorem dX11_collect_51 : decode cX11_collect 51 = .ok (.invokevirtual 101, 3) := by decide +kernel
theorem dX11_collect_54 : decode cX11_collect 54 = .ok (.ifCond .ne 5, 3) := by decide +kernel
theorem dX11_collect_57 : decode cX11_collect 57 = .ok (.iconst (-1), 1) := by decide +kernel
theorem dX11_collect_58 : decode cX11_collect 58 = .ok (.ireturn, 1) := by decide +kernel
theorem dX11_collect_59 : decode cX11_collect 59 = .ok (.iinc 2 1, 3) := by decide +kernel
theorem dX11_collect_62 : decode cX11_collect 62 = .ok (.goto (-37), 3) := by decide +kernel
theorem dX11_collect_65 : decode cX11_collect 65 = .ok (.aload_n 0, 1) := by decide +kernel
theorem dX11_collect_66 : decode cX11_collect 66 = .ok (.iconst 0, 1) := by decide +kernel
theorem dX11_collect_67 : decode cX11_collect 67 = .ok (.putfield 127, 3) := by decide +kernel
theorem dX11_collect_70 : decode cX11_collect 70 = .ok (.aload_n 0, 1) := by decide +kernel
theorem dX11_collect_71 : decode cX11_collect 71 = .ok (.iconst 0, 1) := by decide +kernel
theorem dX11_collect_72 : decode cX11_collect 72 = .ok (.putfield 134, 3) := by decide +kernel
theorem dX11_collect_75 : decode cX11_collect 75 = .ok (.iconst 0, 1) := by decide +kernel
theorem dX11_collect_76 : decode cX11_collect 76 = .ok (.istore_n 2, 1) := by decide +kernel
theorem dX11_collect_77 : decode cX11_collect 77 = .ok (.iload_n 2, 1) := by decide +kernel
theorem dX11_collect_78 : decode cX11_collect 78 = .ok (.iload_n 1, 1) := by decide +kernel
theorem dX11_collect_79 : decode cX11_collect 79 = .ok (.if_icmp .ge 22, 3) := by decide +kernel
theorem dX11_collect_82 : decode cX11_collect 82 = .ok (.aload_n 0, 1) := by decide +kernel
theorem dX11_collect_83 : decode cX11_collect 83 = .ok (.aload_n 0, 1) := by decide +kernel
theorem dX11_collect_84 : decode cX11_collect 84 = .ok (.getfield 46, 3) := by decide +kernel
theorem dX11_collect_87 : decode cX11_collect 87 = .ok (.iload_n 2, 1) := by decide +kernel
theorem dX11_collect_88 : decode cX11_collect 88 = .ok (.iaload, 1) := by decide +kernel
theorem dX11_collect_89 : decode cX11_collect 89 = .ok (.bipush 97, 2) := by decide +kernel
theorem dX11_collect_91 : decode cX11_collect 91 = .ok (.isub, 1) := by decide +kernel
theorem dX11_collect_92 : decode cX11_collect 92 = .ok (.invokevirtual 140, 3) := by decide +kernel
theorem dX11_collect_95 : decode cX11_collect 95 = .ok (.iinc 2 1, 3) := by decide +kernel
theorem dX11_collect_98 : decode cX11_collect 98 = .ok (.goto (-21), 3) := by decide +kernel
theorem dX11_collect_101 : decode cX11_collect 101 = .ok (.aload_n 0, 1) := by decide +kernel
theorem dX11_collect_102 : decode cX11_collect 102 = .ok (.invokevirtual 143, 3) := by decide +kernel
theorem dX11_collect_105 : decode cX11_collect 105 = .ok (.ifCond .ne 6, 3) := by decide +kernel
theorem dX11_collect_108 : decode cX11_collect 108 = .ok (.bipush (-2), 2) := by decide +kernel
theorem dX11_collect_110 : decode cX11_collect 110 = .ok (.ireturn, 1) := by decide +kernel
theorem dX11_collect_111 : decode cX11_collect 111 = .ok (.aload_n 0, 1) := by decide +kernel
theorem dX11_collect_112 : decode cX11_collect 112 = .ok (.aload_n 0, 1) := by decide +kernel
theorem dX11_collect_113 : decode cX11_collect 113 = .ok (.invokevirtual 88, 3) := by decide +kernel
theorem dX11_collect_116 : decode cX11_collect 116 = .ok (.putfield 334, 3) := by decide +kernel
theorem dX11_collect_119 : decode cX11_collect 119 = .ok (.iconst 0, 1) := by decide +kernel
theorem dX11_collect_120 : decode cX11_collect 120 = .ok (.istore_n 2, 1) := by decide +kernel
theorem dX11_collect_121 : decode cX11_collect 121 = .ok (.iload_n 2, 1) := by decide +kernel
theorem dX11_collect_122 : decode cX11_collect 122 = .ok (.aload_n 0, 1) := by decide +kernel
theorem dX11_collect_123 : decode cX11_collect 123 = .ok (.invokevirtual 88, 3) := by decide +kernel
theorem dX11_collect_126 : decode cX11_collect 126 = .ok (.if_icmp .ge 20, 3) := by decide +kernel
theorem dX11_collect_129 : decode cX11_collect 129 = .ok (.aload_n 0, 1) := by decide +kernel
theorem dX11_collect_130 : decode cX11_collect 130 = .ok (.getfield 55, 3) := by decide +kernel
theorem dX11_collect_133 : decode cX11_collect 133 = .ok (.iload_n 2, 1) := by decide +kernel
theorem dX11_collect_134 : decode cX11_collect 134 = .ok (.aload_n 0, 1) := by decide +kernel
theorem dX11_collect_135 : decode cX11_collect 135 = .ok (.iload_n 2, 1) := by decide +kernel
theorem dX11_collect_136 : decode cX11_collect 136 = .ok (.invokevirtual 147, 3) := by decide +kernel
theorem dX11_collect_139 : decode cX11_collect 139 = .ok (.iastore, 1) := by decide +kernel
theorem dX11_collect_140 : decode cX11_collect 140 = .ok (.iinc 2 1, 3) := by decide +kernel
theorem dX11_collect_143 : decode cX11_collect 143 = .ok (.goto (-22), 3) := by decide +kernel
theorem dX11_collect_146 : decode cX11_collect 146 = .ok (.aload_n 0, 1) := by decide +kernel
theorem dX11_collect_147 : decode cX11_collect 147 = .ok (.getfield 134, 3) := by decide +kernel
theorem dX11_collect_150 : decode cX11_collect 150 = .ok (.ireturn, 1) := by decide +kernel
theorem dX11_collected_0 : decode cX11_collected 0 = .ok (.aload_n 0, 1) := by decide +kernel
theorem dX11_collected_1 : decode cX11_collected 1 = .ok (.iconst 0, 1) := by decide +kernel
theorem dX11_collected_2 : decode cX11_collected 2 = .ok (.putfield 1, 3) := by decide +kernel
theorem dX11_collected_5 : decode cX11_collected 5 = .ok (.aload_n 0, 1) := by decide +kernel
theorem dX11_collected_6 : decode cX11_collected 6 = .ok (.iload_n 1, 1) := by decide +kernel
theorem dX11_collected_7 : decode cX11_collected 7 = .ok (.i2l, 1) := by decide +kernel
theorem dX11_collected_8 : decode cX11_collected 8 = .ok (.lconst 1, 1) := by decide +kernel
theorem dX11_collected_9 : decode cX11_collected 9 = .ok (.aload_n 0, 1) := by decide +kernel
theorem dX11_collected_10 : decode cX11_collected 10 = .ok (.getfield 334, 3) := by decide +kernel
theorem dX11_collected_13 : decode cX11_collected 13 = .ok (.i2l, 1) := by decide +kernel
theorem dX11_collected_14 : decode cX11_collected 14 = .ok (.invokevirtual 101, 3) := by decide +kernel
theorem dX11_collected_17 : decode cX11_collected 17 = .ok (.ifCond .eq 14, 3) := by decide +kernel
theorem dX11_collected_20 : decode cX11_collected 20 = .ok (.aload_n 0, 1) := by decide +kernel
theorem dX11_collected_21 : decode cX11_collected 21 = .ok (.getfield 55, 3) := by decide +kernel
theorem dX11_collected_24 : decode cX11_collected 24 = .ok (.iload_n 1, 1) := by decide +kernel
theorem dX11_collected_25 : decode cX11_collected 25 = .ok (.iconst 1, 1) := by decide +kernel
theorem dX11_collected_26 : decode cX11_collected 26 = .ok (.isub, 1) := by decide +kernel
theorem dX11_collected_27 : decode cX11_collected 27 = .ok (.iaload, 1) := by decide +kernel
theorem dX11_collected_28 : decode cX11_collected 28 = .ok (.goto 4, 3) := by decide +kernel
theorem dX11_collected_31 : decode cX11_collected 31 = .ok (.iconst (-1), 1) := by decide +kernel
theorem dX11_collected_32 : decode cX11_collected 32 = .ok (.ireturn, 1) := by decide +kernel
theorem dX11_consistent_0 : decode cX11_consistent 0 = .ok (.aload_n 0, 1) := by decide +kernel
theorem dX11_consistent_1 : decode cX11_consistent 1 = .ok (.iconst 0, 1) := by decide +kernel
theorem dX11_consistent_2 : decode cX11_consistent 2 = .ok (.putfield 1, 3) := by decide +kernel
theorem dX11_consistent_5 : decode cX11_consistent 5 = .ok (.aload_n 0, 1) := by decide +kernel
theorem dX11_consistent_6 : decode cX11_consistent 6 = .ok (.invokevirtual 235, 3) := by decide +kernel
theorem dX11_consistent_9 : decode cX11_consistent 9 = .ok (.ifCond .eq 7, 3) := by decide +kernel
theorem dX11_consistent_12 : decode cX11_consistent 12 = .ok (.iconst 1, 1) := by decide +kernel
theorem dX11_consistent_13 : decode cX11_consistent 13 = .ok (.goto 4, 3) := by decide +kernel
theorem dX11_consistent_16 : decode cX11_consistent 16 = .ok (.iconst 0, 1) := by decide +kernel
theorem dX11_consistent_17 : decode cX11_consistent 17 = .ok (.ireturn, 1) := by decide +kernel
theorem dX11_exponent_0 : decode cX11_exponent 0 = .ok (.aload_n 0, 1) := by decide +kernel
theorem dX11_exponent_1 : decode cX11_exponent 1 = .ok (.iconst 0, 1) := by decide +kernel
theorem dX11_exponent_2 : decode cX11_exponent 2 = .ok (.putfield 1, 3) := by decide +kernel
theorem dX11_exponent_5 : decode cX11_exponent 5 = .ok (.aload_n 0, 1) := by decide +kernel
theorem dX11_exponent_6 : decode cX11_exponent 6 = .ok (.iload_n 1, 1) := by decide +kernel
theorem dX11_exponent_7 : decode cX11_exponent 7 = .ok (.invokevirtual 232, 3) := by decide +kernel
theorem dX11_exponent_10 : decode cX11_exponent 10 = .ok (.ifCond .eq 29, 3) := by decide +kernel
theorem dX11_exponent_13 : decode cX11_exponent 13 = .ok (.aload_n 0, 1) := by decide +kernel
theorem dX11_exponent_14 : decode cX11_exponent 14 = .ok (.iload_n 2, 1) := by decide +kernel
theorem dX11_exponent_15 : decode cX11_exponent 15 = .ok (.i2l, 1) := by decide +kernel
theorem dX11_exponent_16 : decode cX11_exponent 16 = .ok (.lconst 1, 1) := by decide +kernel
theorem dX11_exponent_17 : decode cX11_exponent 17 = .ok (.aload_n 0, 1) := by decide +kernel
theorem dX11_exponent_18 : decode cX11_exponent 18 = .ok (.invokevirtual 88, 3) := by decide +kernel
theorem dX11_exponent_21 : decode cX11_exponent 21 = .ok (.i2l, 1) := by decide +kernel
theorem dX11_exponent_22 : decode cX11_exponent 22 = .ok (.invokevirtual 101, 3) := by decide +kernel
theorem dX11_exponent_25 : decode cX11_exponent 25 = .ok (.ifCond .eq 14, 3) := by decide +kernel
theorem dX11_exponent_28 : decode cX11_exponent 28 = .ok (.aload_n 0, 1) := by decide +kernel
theorem dX11_exponent_29 : decode cX11_exponent 29 = .ok (.iload_n 1, 1) := by decide +kernel
theorem dX11_exponent_30 : decode cX11_exponent 30 = .ok (.iload_n 2, 1) := by decide +kernel
theorem dX11_exponent_31 : decode cX11_exponent 31 = .ok (.iconst 1, 1) := by decide +kernel
theorem dX11_exponent_32 : decode cX11_exponent 32 = .ok (.isub, 1) := by decide +kernel
theorem dX11_exponent_33 : decode cX11_exponent 33 = .ok (.invokevirtual 170, 3) := by decide +kernel
theorem dX11_exponent_36 : decode cX11_exponent 36 = .ok (.goto 6, 3) := by decide +kernel
theorem dX11_exponent_39 : decode cX11_exponent 39 = .ok (.sipush (-10000), 3) := by decide +kernel
theorem dX11_exponent_42 : decode cX11_exponent 42 = .ok (.ireturn, 1) := by decide +kernel
theorem dX11_areCommuting_0 : decode cX11_areCommuting 0 = .ok (.aload_n 0, 1) := by decide +kernel
theorem dX11_areCommuting_1 : decode cX11_areCommuting 1 = .ok (.iload_n 1, 1) := by decide +kernel
theorem dX11_areCommuting_2 : decode cX11_areCommuting 2 = .ok (.iload_n 2, 1) := by decide +kernel
theorem dX11_areCommuting_3 : decode cX11_areCommuting 3 = .ok (.iload_n 3, 1) := by decide +kernel
theorem dX11_areCommuting_4 : decode cX11_areCommuting 4 = .ok (.invokevirtual 254, 3) := by decide +kernel
theorem dX11_areCommuting_7 : decode cX11_areCommuting 7 = .ok (.aload_n 0, 1) := by decide +kernel
theorem dX11_areCommuting_8 : decode cX11_areCommuting 8 = .ok (.iload_n 3, 1) := by decide +kernel
theorem dX11_areCommuting_9 : decode cX11_areCommuting 9 = .ok (.invokevirtual 337, 3) := by decide +kernel
theorem dX11_areCommuting_12 : decode cX11_areCommuting 12 = .ok (.ireturn, 1) := by decide +kernel
theorem dX11_isCentral_0 : decode cX11_isCentral 0 = .ok (.iconst 0, 1) := by decide +kernel
theorem dX11_isCentral_1 : decode cX11_isCentral 1 = .ok (.istore_n 3, 1) := by decide +kernel
theorem dX11_isCentral_2 : decode cX11_isCentral 2 = .ok (.iload_n 3, 1) := by decide +kernel
theorem dX11_isCentral_3 : decode cX11_isCentral 3 = .ok (.aload_n 0, 1) := by decide +kernel
theorem dX11_isCentral_4 : decode cX11_isCentral 4 = .ok (.invokevirtual 88, 3) := by decide +kernel
theorem dX11_isCentral_7 : decode cX11_isCentral 7 = .ok (.if_icmp .ge 35, 3) := by decide +kernel
theorem dX11_isCentral_10 : decode cX11_isCentral 10 = .ok (.aload_n 0, 1) := by decide +kernel
theorem dX11_isCentral_11 : decode cX11_isCentral 11 = .ok (.iload_n 2, 1) := by decide +kernel
theorem dX11_isCentral_12 : decode cX11_isCentral 12 = .ok (.invokevirtual 190, 3) := by decide +kernel
theorem dX11_isCentral_15 : decode cX11_isCentral 15 = .ok (.aload_n 0, 1) := by decide +kernel
theorem dX11_isCentral_16 : decode cX11_isCentral 16 = .ok (.iload_n 2, 1) := by decide +kernel
theorem dX11_isCentral_17 : decode cX11_isCentral 17 = .ok (.iload_n 3, 1) := by decide +kernel
theorem dX11_isCentral_18 : decode cX11_isCentral 18 = .ok (.lconst 1, 1) := by decide +kernel
theorem dX11_isCentral_19 : decode cX11_isCentral 19 = .ok (.invokevirtual 162, 3) := by decide +kernel
theorem dX11_isCentral_22 : decode cX11_isCentral 22 = .ok (.aload_n 0, 1) := by decide +kernel
theorem dX11_isCentral_23 : decode cX11_isCentral 23 = .ok (.iload_n 1, 1) := by decide +kernel
theorem dX11_isCentral_24 : decode cX11_isCentral 24 = .ok (.iload_n 2, 1) := by decide +kernel
theorem dX11_isCentral_25 : decode cX11_isCentral 25 = .ok (.iload_n 2, 1) := by decide +kernel
theorem dX11_isCentral_26 : decode cX11_isCentral 26 = .ok (.iconst 1, 1) := by decide +kernel
theorem dX11_isCentral_27 : decode cX11_isCentral 27 = .ok (.iadd, 1) := by decide +kernel
theorem dX11_isCentral_28 : decode cX11_isCentral 28 = .ok (.invokevirtual 340, 3) := by decide +kernel
theorem dX11_isCentral_31 : decode cX11_isCentral 31 = .ok (.ifCond .ne 5, 3) := by decide +kernel
theorem dX11_isCentral_34 : decode cX11_isCentral 34 = .ok (.iconst 0, 1) := by decide +kernel
theorem dX11_isCentral_35 : decode cX11_isCentral 35 = .ok (.ireturn, 1) := by decide +kernel
theorem dX11_isCentral_36 : decode cX11_isCentral 36 = .ok (.iinc 3 1, 3) := by decide +kernel
theorem dX11_isCentral_39 : decode cX11_isCentral 39 = .ok (.goto (-37), 3) := by decide +kernel
theorem dX11_isCentral_42 : decode cX11_isCentral 42 = .ok (.iconst 1, 1) := by decide +kernel
theorem dX11_isCentral_43 : decode cX11_isCentral 43 = .ok (.ireturn, 1) := by decide +kernel
theorem dX11_isCentralLetter_0 : decode cX11_isCentralLetter 0 = .ok (.aload_n 0, 1) := by decide +kernel
theorem dX11_isCentralLetter_1 : decode cX11_isCentralLetter 1 = .ok (.iconst 0, 1) := by decide +kernel
theorem dX11_isCentralLetter_2 : decode cX11_isCentralLetter 2 = .ok (.invokevirtual 190, 3) := by decide +kernel
theorem dX11_isCentralLetter_5 : decode cX11_isCentralLetter 5 = .ok (.aload_n 0, 1) := by decide +kernel
theorem dX11_isCentralLetter_6 : decode cX11_isCentralLetter 6 = .ok (.iconst 0, 1) := by decide +kernel
theorem dX11_isCentralLetter_7 : decode cX11_isCentralLetter 7 = .ok (.iload_n 1, 1) := by decide +kernel
theorem dX11_isCentralLetter_8 : decode cX11_isCentralLetter 8 = .ok (.lconst 1, 1) := by decide +kernel
theorem dX11_isCentralLetter_9 : decode cX11_isCentralLetter 9 = .ok (.invokevirtual 162, 3) := by decide +kernel
theorem dX11_isCentralLetter_12 : decode cX11_isCentralLetter 12 = .ok (.aload_n 0, 1) := by decide +kernel
theorem dX11_isCentralLetter_13 : decode cX11_isCentralLetter 13 = .ok (.iconst 0, 1) := by decide +kernel
theorem dX11_isCentralLetter_14 : decode cX11_isCentralLetter 14 = .ok (.iconst 1, 1) := by decide +kernel
theorem dX11_isCentralLetter_15 : decode cX11_isCentralLetter 15 = .ok (.invokevirtual 343, 3) := by decide +kernel
theorem dX11_isCentralLetter_18 : decode cX11_isCentralLetter 18 = .ok (.ireturn, 1) := by decide +kernel
theorem dX11_generator_0 : decode cX11_generator 0 = .ok (.aload_n 0, 1) := by decide +kernel
theorem dX11_generator_1 : decode cX11_generator 1 = .ok (.iconst 0, 1) := by decide +kernel
theorem dX11_generator_2 : decode cX11_generator 2 = .ok (.putfield 1, 3) := by decide +kernel
theorem dX11_generator_5 : decode cX11_generator 5 = .ok (.aload_n 0, 1) := by decide +kernel
theorem dX11_generator_6 : decode cX11_generator 6 = .ok (.iload_n 1, 1) := by decide +kernel
theorem dX11_generator_7 : decode cX11_generator 7 = .ok (.i2l, 1) := by decide +kernel
theorem dX11_generator_8 : decode cX11_generator 8 = .ok (.lconst 1, 1) := by decide +kernel
theorem dX11_generator_9 : decode cX11_generator 9 = .ok (.aload_n 0, 1) := by decide +kernel
theorem dX11_generator_10 : decode cX11_generator 10 = .ok (.invokevirtual 88, 3) := by decide +kernel
theorem dX11_generator_13 : decode cX11_generator 13 = .ok (.i2l, 1) := by decide +kernel
theorem dX11_generator_14 : decode cX11_generator 14 = .ok (.invokevirtual 101, 3) := by decide +kernel
theorem dX11_generator_17 : decode cX11_generator 17 = .ok (.ifCond .ne 5, 3) := by decide +kernel
theorem dX11_generator_20 : decode cX11_generator 20 = .ok (.iconst (-1), 1) := by decide +kernel
theorem dX11_generator_21 : decode cX11_generator 21 = .ok (.ireturn, 1) := by decide +kernel
theorem dX11_generator_22 : decode cX11_generator 22 = .ok (.iload_n 2, 1) := by decide +kernel
theorem dX11_generator_23 : decode cX11_generator 23 = .ok (.ifCond .ne 11, 3) := by decide +kernel
theorem dX11_generator_26 : decode cX11_generator 26 = .ok (.aload_n 0, 1) := by decide +kernel
theorem dX11_generator_27 : decode cX11_generator 27 = .ok (.iload_n 1, 1) := by decide +kernel
theorem dX11_generator_28 : decode cX11_generator 28 = .ok (.iconst 1, 1) := by decide +kernel
theorem dX11_generator_29 : decode cX11_generator 29 = .ok (.isub, 1) := by decide +kernel
theorem dX11_generator_30 : decode cX11_generator 30 = .ok (.invokevirtual 92, 3) := by decide +kernel
theorem dX11_generator_33 : decode cX11_generator 33 = .ok (.ireturn, 1) := by decide +kernel
theorem dX11_generator_34 : decode cX11_generator 34 = .ok (.iload_n 2, 1) := by decide +kernel
theorem dX11_generator_35 : decode cX11_generator 35 = .ok (.iconst 1, 1) := by decide +kernel
theorem dX11_generator_36 : decode cX11_generator 36 = .ok (.if_icmp .ne 28, 3) := by decide +kernel
theorem dX11_generator_39 : decode cX11_generator 39 = .ok (.aload_n 0, 1) := by decide +kernel
theorem dX11_generator_40 : decode cX11_generator 40 = .ok (.invokevirtual 235, 3) := by decide +kernel
theorem dX11_generator_43 : decode cX11_generator 43 = .ok (.ifCond .eq 21, 3) := by decide +kernel
theorem dX11_generator_46 : decode cX11_generator 46 = .ok (.aload_n 0, 1) := by decide +kernel
theorem dX11_generator_47 : decode cX11_generator 47 = .ok (.iload_n 1, 1) := by decide +kernel
theorem dX11_generator_48 : decode cX11_generator 48 = .ok (.iconst 1, 1) := by decide +kernel
theorem dX11_generator_49 : decode cX11_generator 49 = .ok (.isub, 1) := by decide +kernel
theorem dX11_generator_50 : decode cX11_generator 50 = .ok (.invokevirtual 346, 3) := by decide +kernel
theorem dX11_generator_53 : decode cX11_generator 53 = .ok (.ifCond .eq 7, 3) := by decide +kernel
theorem dX11_generator_56 : decode cX11_generator 56 = .ok (.iconst 1, 1) := by decide +kernel
theorem dX11_generator_57 : decode cX11_generator 57 = .ok (.goto 8, 3) := by decide +kernel
theorem dX11_generator_60 : decode cX11_generator 60 = .ok (.iconst 0, 1) := by decide +kernel
theorem dX11_generator_61 : decode cX11_generator 61 = .ok (.goto 4, 3) := by decide +kernel
theorem dX11_generator_64 : decode cX11_generator 64 = .ok (.iconst (-1), 1) := by decide +kernel
theorem dX11_generator_65 : decode cX11_generator 65 = .ok (.ireturn, 1) := by decide +kernel
theorem dX11_tailOf_0 : decode cX11_tailOf 0 = .ok (.aload_n 0, 1) := by decide +kernel
theorem dX11_tailOf_1 : decode cX11_tailOf 1 = .ok (.iconst 0, 1) := by decide +kernel
theorem dX11_tailOf_2 : decode cX11_tailOf 2 = .ok (.putfield 1, 3) := by decide +kernel
theorem dX11_tailOf_5 : decode cX11_tailOf 5 = .ok (.aload_n 0, 1) := by decide +kernel
theorem dX11_tailOf_6 : decode cX11_tailOf 6 = .ok (.iload_n 1, 1) := by decide +kernel
theorem dX11_tailOf_7 : decode cX11_tailOf 7 = .ok (.iload_n 2, 1) := by decide +kernel
theorem dX11_tailOf_8 : decode cX11_tailOf 8 = .ok (.iload_n 3, 1) := by decide +kernel
theorem dX11_tailOf_9 : decode cX11_tailOf 9 = .ok (.invokevirtual 114, 3) := by decide +kernel
theorem dX11_tailOf_12 : decode cX11_tailOf 12 = .ok (.ifCond .eq 19, 3) := by decide +kernel
theorem dX11_tailOf_15 : decode cX11_tailOf 15 = .ok (.aload_n 0, 1) := by decide +kernel
theorem dX11_tailOf_16 : decode cX11_tailOf 16 = .ok (.iload_n 1, 1) := by decide +kernel
theorem dX11_tailOf_17 : decode cX11_tailOf 17 = .ok (.iconst 1, 1) := by decide +kernel
theorem dX11_tailOf_18 : decode cX11_tailOf 18 = .ok (.isub, 1) := by decide +kernel
theorem dX11_tailOf_19 : decode cX11_tailOf 19 = .ok (.iload_n 2, 1) := by decide +kernel
theorem dX11_tailOf_20 : decode cX11_tailOf 20 = .ok (.iconst 1, 1) := by decide +kernel
theorem dX11_tailOf_21 : decode cX11_tailOf 21 = .ok (.isub, 1) := by decide +kernel
theorem dX11_tailOf_22 : decode cX11_tailOf 22 = .ok (.iload_n 3, 1) := by decide +kernel
theorem dX11_tailOf_23 : decode cX11_tailOf 23 = .ok (.iconst 1, 1) := by decide +kernel
theorem dX11_tailOf_24 : decode cX11_tailOf 24 = .ok (.isub, 1) := by decide +kernel
theorem dX11_tailOf_25 : decode cX11_tailOf 25 = .ok (.invokevirtual 130, 3) := by decide +kernel
theorem dX11_tailOf_28 : decode cX11_tailOf 28 = .ok (.goto 4, 3) := by decide +kernel
theorem dX11_tailOf_31 : decode cX11_tailOf 31 = .ok (.iconst (-1), 1) := by decide +kernel
theorem dX11_tailOf_32 : decode cX11_tailOf 32 = .ok (.ireturn, 1) := by decide +kernel
theorem dX11_isPolynomial_0 : decode cX11_isPolynomial 0 = .ok (.aload_n 0, 1) := by decide +kernel
theorem dX11_isPolynomial_1 : decode cX11_isPolynomial 1 = .ok (.iload_n 1, 1) := by decide +kernel
theorem dX11_isPolynomial_2 : decode cX11_isPolynomial 2 = .ok (.i2l, 1) := by decide +kernel
theorem dX11_isPolynomial_3 : decode cX11_isPolynomial 3 = .ok (.lconst 1, 1) := by decide +kernel
theorem dX11_isPolynomial_4 : decode cX11_isPolynomial 4 = .ok (.aload_n 0, 1) := by decide +kernel
theorem dX11_isPolynomial_5 : decode cX11_isPolynomial 5 = .ok (.invokevirtual 88, 3) := by decide +kernel
theorem dX11_isPolynomial_8 : decode cX11_isPolynomial 8 = .ok (.i2l, 1) := by decide +kernel
theorem dX11_isPolynomial_9 : decode cX11_isPolynomial 9 = .ok (.invokevirtual 101, 3) := by decide +kernel
theorem dX11_isPolynomial_12 : decode cX11_isPolynomial 12 = .ok (.ifCond .eq 14, 3) := by decide +kernel
theorem dX11_isPolynomial_15 : decode cX11_isPolynomial 15 = .ok (.aload_n 0, 1) := by decide +kernel
theorem dX11_isPolynomial_16 : decode cX11_isPolynomial 16 = .ok (.invokevirtual 235, 3) := by decide +kernel
theorem dX11_isPolynomial_19 : decode cX11_isPolynomial 19 = .ok (.ifCond .eq 7, 3) := by decide +kernel
theorem dX11_isPolynomial_22 : decode cX11_isPolynomial 22 = .ok (.iconst 1, 1) := by decide +kernel
theorem dX11_isPolynomial_23 : decode cX11_isPolynomial 23 = .ok (.goto 4, 3) := by decide +kernel
theorem dX11_isPolynomial_26 : decode cX11_isPolynomial 26 = .ok (.iconst 0, 1) := by decide +kernel
theorem dX11_isPolynomial_27 : decode cX11_isPolynomial 27 = .ok (.ireturn, 1) := by decide +kernel
theorem dX11_terms_0 : decode cX11_terms 0 = .ok (.aload_n 0, 1) := by decide +kernel
theorem dX11_terms_1 : decode cX11_terms 1 = .ok (.iconst 0, 1) := by decide +kernel
theorem dX11_terms_2 : decode cX11_terms 2 = .ok (.putfield 1, 3) := by decide +kernel
theorem dX11_terms_5 : decode cX11_terms 5 = .ok (.aload_n 0, 1) := by decide +kernel
theorem dX11_terms_6 : decode cX11_terms 6 = .ok (.iload_n 1, 1) := by decide +kernel
theorem dX11_terms_7 : decode cX11_terms 7 = .ok (.invokevirtual 349, 3) := by decide +kernel
theorem dX11_terms_10 : decode cX11_terms 10 = .ok (.ifCond .eq 14, 3) := by decide +kernel
theorem dX11_terms_13 : decode cX11_terms 13 = .ok (.aload_n 0, 1) := by decide +kernel
theorem dX11_terms_14 : decode cX11_terms 14 = .ok (.getfield 26, 3) := by decide +kernel
theorem dX11_terms_17 : decode cX11_terms 17 = .ok (.iload_n 1, 1) := by decide +kernel
theorem dX11_terms_18 : decode cX11_terms 18 = .ok (.iconst 1, 1) := by decide +kernel
theorem dX11_terms_19 : decode cX11_terms 19 = .ok (.isub, 1) := by decide +kernel
theorem dX11_terms_20 : decode cX11_terms 20 = .ok (.iaload, 1) := by decide +kernel
theorem dX11_terms_21 : decode cX11_terms 21 = .ok (.goto 4, 3) := by decide +kernel
theorem dX11_terms_24 : decode cX11_terms 24 = .ok (.iconst (-1), 1) := by decide +kernel
theorem dX11_terms_25 : decode cX11_terms 25 = .ok (.ireturn, 1) := by decide +kernel
theorem dX11_termAt_0 : decode cX11_termAt 0 = .ok (.sipush 9100, 3) := by decide +kernel
theorem dX11_termAt_3 : decode cX11_termAt 3 = .ok (.iload_n 1, 1) := by decide +kernel
theorem dX11_termAt_4 : decode cX11_termAt 4 = .ok (.iconst 1, 1) := by decide +kernel
theorem dX11_termAt_5 : decode cX11_termAt 5 = .ok (.isub, 1) := by decide +kernel
theorem dX11_termAt_6 : decode cX11_termAt 6 = .ok (.imul, 1) := by decide +kernel
theorem dX11_termAt_7 : decode cX11_termAt 7 = .ok (.bipush 13, 2) := by decide +kernel
theorem dX11_termAt_9 : decode cX11_termAt 9 = .ok (.iload_n 2, 1) := by decide +kernel
theorem dX11_termAt_10 : decode cX11_termAt 10 = .ok (.imul, 1) := by decide +kernel
theorem dX11_termAt_11 : decode cX11_termAt 11 = .ok (.iadd, 1) := by decide +kernel
theorem dX11_termAt_12 : decode cX11_termAt 12 = .ok (.ireturn, 1) := by decide +kernel
theorem dX11_term_0 : decode cX11_term 0 = .ok (.aload_n 0, 1) := by decide +kernel
theorem dX11_term_1 : decode cX11_term 1 = .ok (.iconst 0, 1) := by decide +kernel
theorem dX11_term_2 : decode cX11_term 2 = .ok (.putfield 1, 3) := by decide +kernel
theorem dX11_term_5 : decode cX11_term 5 = .ok (.aload_n 0, 1) := by decide +kernel
theorem dX11_term_6 : decode cX11_term 6 = .ok (.iload_n 1, 1) := by decide +kernel
theorem dX11_term_7 : decode cX11_term 7 = .ok (.invokevirtual 349, 3) := by decide +kernel
theorem dX11_term_10 : decode cX11_term 10 = .ok (.ifCond .eq 43, 3) := by decide +kernel
theorem dX11_term_13 : decode cX11_term 13 = .ok (.aload_n 0, 1) := by decide +kernel
theorem dX11_term_14 : decode cX11_term 14 = .ok (.iload_n 2, 1) := by decide +kernel
theorem dX11_term_15 : decode cX11_term 15 = .ok (.i2l, 1) := by decide +kernel
theorem dX11_term_16 : decode cX11_term 16 = .ok (.lconst 0, 1) := by decide +kernel
theorem dX11_term_17 : decode cX11_term 17 = .ok (.aload_n 0, 1) := by decide +kernel
theorem dX11_term_18 : decode cX11_term 18 = .ok (.getfield 26, 3) := by decide +kernel
theorem dX11_term_21 : decode cX11_term 21 = .ok (.iload_n 1, 1) := by decide +kernel
theorem dX11_term_22 : decode cX11_term 22 = .ok (.iconst 1, 1) := by decide +kernel
theorem dX11_term_23 : decode cX11_term 23 = .ok (.isub, 1) := by decide +kernel
theorem dX11_term_24 : decode cX11_term 24 = .ok (.iaload, 1) := by decide +kernel
theorem dX11_term_25 : decode cX11_term 25 = .ok (.i2l, 1) := by decide +kernel
theorem dX11_term_26 : decode cX11_term 26 = .ok (.lconst 1, 1) := by decide +kernel
theorem dX11_term_27 : decode cX11_term 27 = .ok (.lsub, 1) := by decide +kernel
theorem dX11_term_28 : decode cX11_term 28 = .ok (.invokevirtual 101, 3) := by decide +kernel
theorem dX11_term_31 : decode cX11_term 31 = .ok (.ifCond .eq 22, 3) := by decide +kernel
theorem dX11_term_34 : decode cX11_term 34 = .ok (.aload_n 0, 1) := by decide +kernel
theorem dX11_term_35 : decode cX11_term 35 = .ok (.iload_n 3, 1) := by decide +kernel
theorem dX11_term_36 : decode cX11_term 36 = .ok (.i2l, 1) := by decide +kernel
theorem dX11_term_37 : decode cX11_term 37 = .ok (.lconst 0, 1) := by decide +kernel
theorem dX11_term_38 : decode cX11_term 38 = .ok (.ldc2_w 174, 3) := by decide +kernel
theorem dX11_term_41 : decode cX11_term 41 = .ok (.aload_n 0, 1) := by decide +kernel
theorem dX11_term_42 : decode cX11_term 42 = .ok (.invokevirtual 88, 3) := by decide +kernel
theorem dX11_term_45 : decode cX11_term 45 = .ok (.i2l, 1) := by decide +kernel
theorem dX11_term_46 : decode cX11_term 46 = .ok (.lmul, 1) := by decide +kernel
theorem dX11_term_47 : decode cX11_term 47 = .ok (.invokevirtual 101, 3) := by decide +kernel
theorem dX11_term_50 : decode cX11_term 50 = .ok (.ifCond .ne 7, 3) := by decide +kernel
theorem dX11_term_53 : decode cX11_term 53 = .ok (.sipush (-10000), 3) := by decide +kernel
theorem dX11_term_56 : decode cX11_term 56 = .ok (.ireturn, 1) := by decide +kernel
theorem dX11_term_57 : decode cX11_term 57 = .ok (.aload_n 0, 1) := by decide +kernel
theorem dX11_term_58 : decode cX11_term 58 = .ok (.getfield 30, 3) := by decide +kernel
theorem dX11_term_61 : decode cX11_term 61 = .ok (.aload_n 0, 1) := by decide +kernel
theorem dX11_term_62 : decode cX11_term 62 = .ok (.iload_n 1, 1) := by decide +kernel
theorem dX11_term_63 : decode cX11_term 63 = .ok (.iload_n 2, 1) := by decide +kernel
theorem dX11_term_64 : decode cX11_term 64 = .ok (.invokevirtual 352, 3) := by decide +kernel
