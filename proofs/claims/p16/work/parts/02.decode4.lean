theorem dX11_term_67 : decode cX11_term 67 = .ok (.iload_n 3, 1) := by decide +kernel
theorem dX11_term_68 : decode cX11_term 68 = .ok (.iadd, 1) := by decide +kernel
theorem dX11_term_69 : decode cX11_term 69 = .ok (.laload, 1) := by decide +kernel
theorem dX11_term_70 : decode cX11_term 70 = .ok (.l2i, 1) := by decide +kernel
theorem dX11_term_71 : decode cX11_term 71 = .ok (.ireturn, 1) := by decide +kernel
theorem dX11_degreeOf_0 : decode cX11_degreeOf 0 = .ok (.iconst 0, 1) := by decide +kernel
theorem dX11_degreeOf_1 : decode cX11_degreeOf 1 = .ok (.istore_n 3, 1) := by decide +kernel
theorem dX11_degreeOf_2 : decode cX11_degreeOf 2 = .ok (.iconst 1, 1) := by decide +kernel
theorem dX11_degreeOf_3 : decode cX11_degreeOf 3 = .ok (.istore 4, 2) := by decide +kernel
theorem dX11_degreeOf_5 : decode cX11_degreeOf 5 = .ok (.iload 4, 2) := by decide +kernel
theorem dX11_degreeOf_7 : decode cX11_degreeOf 7 = .ok (.iconst 2, 1) := by decide +kernel
theorem dX11_degreeOf_8 : decode cX11_degreeOf 8 = .ok (.aload_n 0, 1) := by decide +kernel
theorem dX11_degreeOf_9 : decode cX11_degreeOf 9 = .ok (.invokevirtual 88, 3) := by decide +kernel
theorem dX11_degreeOf_12 : decode cX11_degreeOf 12 = .ok (.imul, 1) := by decide +kernel
theorem dX11_degreeOf_13 : decode cX11_degreeOf 13 = .ok (.if_icmp .gt 27, 3) := by decide +kernel
theorem dX11_degreeOf_16 : decode cX11_degreeOf 16 = .ok (.iload_n 3, 1) := by decide +kernel
theorem dX11_degreeOf_17 : decode cX11_degreeOf 17 = .ok (.aload_n 0, 1) := by decide +kernel
theorem dX11_degreeOf_18 : decode cX11_degreeOf 18 = .ok (.getfield 30, 3) := by decide +kernel
theorem dX11_degreeOf_21 : decode cX11_degreeOf 21 = .ok (.aload_n 0, 1) := by decide +kernel
theorem dX11_degreeOf_22 : decode cX11_degreeOf 22 = .ok (.iload_n 1, 1) := by decide +kernel
theorem dX11_degreeOf_23 : decode cX11_degreeOf 23 = .ok (.iload_n 2, 1) := by decide +kernel
theorem dX11_degreeOf_24 : decode cX11_degreeOf 24 = .ok (.invokevirtual 352, 3) := by decide +kernel
theorem dX11_degreeOf_27 : decode cX11_degreeOf 27 = .ok (.iload 4, 2) := by decide +kernel
theorem dX11_degreeOf_29 : decode cX11_degreeOf 29 = .ok (.iadd, 1) := by decide +kernel
theorem dX11_degreeOf_30 : decode cX11_degreeOf 30 = .ok (.laload, 1) := by decide +kernel
theorem dX11_degreeOf_31 : decode cX11_degreeOf 31 = .ok (.l2i, 1) := by decide +kernel
theorem dX11_degreeOf_32 : decode cX11_degreeOf 32 = .ok (.iadd, 1) := by decide +kernel
theorem dX11_degreeOf_33 : decode cX11_degreeOf 33 = .ok (.istore_n 3, 1) := by decide +kernel
theorem dX11_degreeOf_34 : decode cX11_degreeOf 34 = .ok (.iinc 4 1, 3) := by decide +kernel
theorem dX11_degreeOf_37 : decode cX11_degreeOf 37 = .ok (.goto (-32), 3) := by decide +kernel
theorem dX11_degreeOf_40 : decode cX11_degreeOf 40 = .ok (.iload_n 3, 1) := by decide +kernel
theorem dX11_degreeOf_41 : decode cX11_degreeOf 41 = .ok (.ireturn, 1) := by decide +kernel
theorem dX11_weightOfTerm_0 : decode cX11_weightOfTerm 0 = .ok (.iconst 0, 1) := by decide +kernel
theorem dX11_weightOfTerm_1 : decode cX11_weightOfTerm 1 = .ok (.istore_n 3, 1) := by decide +kernel
theorem dX11_weightOfTerm_2 : decode cX11_weightOfTerm 2 = .ok (.iconst 1, 1) := by decide +kernel
theorem dX11_weightOfTerm_3 : decode cX11_weightOfTerm 3 = .ok (.istore 4, 2) := by decide +kernel
theorem dX11_weightOfTerm_5 : decode cX11_weightOfTerm 5 = .ok (.iload 4, 2) := by decide +kernel
theorem dX11_weightOfTerm_7 : decode cX11_weightOfTerm 7 = .ok (.iconst 2, 1) := by decide +kernel
theorem dX11_weightOfTerm_8 : decode cX11_weightOfTerm 8 = .ok (.aload_n 0, 1) := by decide +kernel
theorem dX11_weightOfTerm_9 : decode cX11_weightOfTerm 9 = .ok (.invokevirtual 88, 3) := by decide +kernel
theorem dX11_weightOfTerm_12 : decode cX11_weightOfTerm 12 = .ok (.imul, 1) := by decide +kernel
theorem dX11_weightOfTerm_13 : decode cX11_weightOfTerm 13 = .ok (.if_icmp .gt 36, 3) := by decide +kernel
theorem dX11_weightOfTerm_16 : decode cX11_weightOfTerm 16 = .ok (.iload_n 3, 1) := by decide +kernel
theorem dX11_weightOfTerm_17 : decode cX11_weightOfTerm 17 = .ok (.aload_n 0, 1) := by decide +kernel
theorem dX11_weightOfTerm_18 : decode cX11_weightOfTerm 18 = .ok (.iload 4, 2) := by decide +kernel
theorem dX11_weightOfTerm_20 : decode cX11_weightOfTerm 20 = .ok (.iconst 1, 1) := by decide +kernel
theorem dX11_weightOfTerm_21 : decode cX11_weightOfTerm 21 = .ok (.isub, 1) := by decide +kernel
theorem dX11_weightOfTerm_22 : decode cX11_weightOfTerm 22 = .ok (.invokevirtual 215, 3) := by decide +kernel
theorem dX11_weightOfTerm_25 : decode cX11_weightOfTerm 25 = .ok (.aload_n 0, 1) := by decide +kernel
theorem dX11_weightOfTerm_26 : decode cX11_weightOfTerm 26 = .ok (.getfield 30, 3) := by decide +kernel
theorem dX11_weightOfTerm_29 : decode cX11_weightOfTerm 29 = .ok (.aload_n 0, 1) := by decide +kernel
theorem dX11_weightOfTerm_30 : decode cX11_weightOfTerm 30 = .ok (.iload_n 1, 1) := by decide +kernel
theorem dX11_weightOfTerm_31 : decode cX11_weightOfTerm 31 = .ok (.iload_n 2, 1) := by decide +kernel
theorem dX11_weightOfTerm_32 : decode cX11_weightOfTerm 32 = .ok (.invokevirtual 352, 3) := by decide +kernel
theorem dX11_weightOfTerm_35 : decode cX11_weightOfTerm 35 = .ok (.iload 4, 2) := by decide +kernel
theorem dX11_weightOfTerm_37 : decode cX11_weightOfTerm 37 = .ok (.iadd, 1) := by decide +kernel
theorem dX11_weightOfTerm_38 : decode cX11_weightOfTerm 38 = .ok (.laload, 1) := by decide +kernel
theorem dX11_weightOfTerm_39 : decode cX11_weightOfTerm 39 = .ok (.l2i, 1) := by decide +kernel
theorem dX11_weightOfTerm_40 : decode cX11_weightOfTerm 40 = .ok (.imul, 1) := by decide +kernel
theorem dX11_weightOfTerm_41 : decode cX11_weightOfTerm 41 = .ok (.iadd, 1) := by decide +kernel
theorem dX11_weightOfTerm_42 : decode cX11_weightOfTerm 42 = .ok (.istore_n 3, 1) := by decide +kernel
theorem dX11_weightOfTerm_43 : decode cX11_weightOfTerm 43 = .ok (.iinc 4 1, 3) := by decide +kernel
theorem dX11_weightOfTerm_46 : decode cX11_weightOfTerm 46 = .ok (.goto (-41), 3) := by decide +kernel
theorem dX11_weightOfTerm_49 : decode cX11_weightOfTerm 49 = .ok (.iload_n 3, 1) := by decide +kernel
theorem dX11_weightOfTerm_50 : decode cX11_weightOfTerm 50 = .ok (.ireturn, 1) := by decide +kernel
theorem dX11_isInBoth_0 : decode cX11_isInBoth 0 = .ok (.iconst 1, 1) := by decide +kernel
theorem dX11_isInBoth_1 : decode cX11_isInBoth 1 = .ok (.istore_n 3, 1) := by decide +kernel
theorem dX11_isInBoth_2 : decode cX11_isInBoth 2 = .ok (.iload_n 3, 1) := by decide +kernel
theorem dX11_isInBoth_3 : decode cX11_isInBoth 3 = .ok (.aload_n 0, 1) := by decide +kernel
theorem dX11_isInBoth_4 : decode cX11_isInBoth 4 = .ok (.invokevirtual 88, 3) := by decide +kernel
theorem dX11_isInBoth_7 : decode cX11_isInBoth 7 = .ok (.if_icmp .gt 52, 3) := by decide +kernel
theorem dX11_isInBoth_10 : decode cX11_isInBoth 10 = .ok (.aload_n 0, 1) := by decide +kernel
theorem dX11_isInBoth_11 : decode cX11_isInBoth 11 = .ok (.getfield 30, 3) := by decide +kernel
theorem dX11_isInBoth_14 : decode cX11_isInBoth 14 = .ok (.aload_n 0, 1) := by decide +kernel
theorem dX11_isInBoth_15 : decode cX11_isInBoth 15 = .ok (.iload_n 1, 1) := by decide +kernel
theorem dX11_isInBoth_16 : decode cX11_isInBoth 16 = .ok (.iload_n 2, 1) := by decide +kernel
theorem dX11_isInBoth_17 : decode cX11_isInBoth 17 = .ok (.invokevirtual 352, 3) := by decide +kernel
theorem dX11_isInBoth_20 : decode cX11_isInBoth 20 = .ok (.iload_n 3, 1) := by decide +kernel
theorem dX11_isInBoth_21 : decode cX11_isInBoth 21 = .ok (.iadd, 1) := by decide +kernel
theorem dX11_isInBoth_22 : decode cX11_isInBoth 22 = .ok (.laload, 1) := by decide +kernel
theorem dX11_isInBoth_23 : decode cX11_isInBoth 23 = .ok (.lconst 0, 1) := by decide +kernel
theorem dX11_isInBoth_24 : decode cX11_isInBoth 24 = .ok (.lcmp, 1) := by decide +kernel
theorem dX11_isInBoth_25 : decode cX11_isInBoth 25 = .ok (.ifCond .le 28, 3) := by decide +kernel
theorem dX11_isInBoth_28 : decode cX11_isInBoth 28 = .ok (.aload_n 0, 1) := by decide +kernel
theorem dX11_isInBoth_29 : decode cX11_isInBoth 29 = .ok (.getfield 30, 3) := by decide +kernel
theorem dX11_isInBoth_32 : decode cX11_isInBoth 32 = .ok (.aload_n 0, 1) := by decide +kernel
theorem dX11_isInBoth_33 : decode cX11_isInBoth 33 = .ok (.iload_n 1, 1) := by decide +kernel
theorem dX11_isInBoth_34 : decode cX11_isInBoth 34 = .ok (.iload_n 2, 1) := by decide +kernel
theorem dX11_isInBoth_35 : decode cX11_isInBoth 35 = .ok (.invokevirtual 352, 3) := by decide +kernel
theorem dX11_isInBoth_38 : decode cX11_isInBoth 38 = .ok (.aload_n 0, 1) := by decide +kernel
theorem dX11_isInBoth_39 : decode cX11_isInBoth 39 = .ok (.invokevirtual 88, 3) := by decide +kernel
theorem dX11_isInBoth_42 : decode cX11_isInBoth 42 = .ok (.iadd, 1) := by decide +kernel
theorem dX11_isInBoth_43 : decode cX11_isInBoth 43 = .ok (.iload_n 3, 1) := by decide +kernel
theorem dX11_isInBoth_44 : decode cX11_isInBoth 44 = .ok (.iadd, 1) := by decide +kernel
theorem dX11_isInBoth_45 : decode cX11_isInBoth 45 = .ok (.laload, 1) := by decide +kernel
theorem dX11_isInBoth_46 : decode cX11_isInBoth 46 = .ok (.lconst 0, 1) := by decide +kernel
theorem dX11_isInBoth_47 : decode cX11_isInBoth 47 = .ok (.lcmp, 1) := by decide +kernel
theorem dX11_isInBoth_48 : decode cX11_isInBoth 48 = .ok (.ifCond .le 5, 3) := by decide +kernel
theorem dX11_isInBoth_51 : decode cX11_isInBoth 51 = .ok (.iconst 1, 1) := by decide +kernel
theorem dX11_isInBoth_52 : decode cX11_isInBoth 52 = .ok (.ireturn, 1) := by decide +kernel
theorem dX11_isInBoth_53 : decode cX11_isInBoth 53 = .ok (.iinc 3 1, 3) := by decide +kernel
theorem dX11_isInBoth_56 : decode cX11_isInBoth 56 = .ok (.goto (-54), 3) := by decide +kernel
theorem dX11_isInBoth_59 : decode cX11_isInBoth 59 = .ok (.iconst 0, 1) := by decide +kernel
theorem dX11_isInBoth_60 : decode cX11_isInBoth 60 = .ok (.ireturn, 1) := by decide +kernel
theorem dX11_shape_0 : decode cX11_shape 0 = .ok (.aload_n 0, 1) := by decide +kernel
theorem dX11_shape_1 : decode cX11_shape 1 = .ok (.iconst 0, 1) := by decide +kernel
theorem dX11_shape_2 : decode cX11_shape 2 = .ok (.putfield 1, 3) := by decide +kernel
theorem dX11_shape_5 : decode cX11_shape 5 = .ok (.aload_n 0, 1) := by decide +kernel
theorem dX11_shape_6 : decode cX11_shape 6 = .ok (.iload_n 1, 1) := by decide +kernel
theorem dX11_shape_7 : decode cX11_shape 7 = .ok (.invokevirtual 349, 3) := by decide +kernel
theorem dX11_shape_10 : decode cX11_shape 10 = .ok (.ifCond .eq 16, 3) := by decide +kernel
theorem dX11_shape_13 : decode cX11_shape 13 = .ok (.aload_n 0, 1) := by decide +kernel
theorem dX11_shape_14 : decode cX11_shape 14 = .ok (.iload_n 2, 1) := by decide +kernel
theorem dX11_shape_15 : decode cX11_shape 15 = .ok (.i2l, 1) := by decide +kernel
theorem dX11_shape_16 : decode cX11_shape 16 = .ok (.lconst 0, 1) := by decide +kernel
theorem dX11_shape_17 : decode cX11_shape 17 = .ok (.ldc2_w 118, 3) := by decide +kernel
theorem dX11_shape_20 : decode cX11_shape 20 = .ok (.invokevirtual 101, 3) := by decide +kernel
theorem dX11_shape_23 : decode cX11_shape 23 = .ok (.ifCond .ne 7, 3) := by decide +kernel
theorem dX11_shape_26 : decode cX11_shape 26 = .ok (.sipush (-10000), 3) := by decide +kernel
theorem dX11_shape_29 : decode cX11_shape 29 = .ok (.ireturn, 1) := by decide +kernel
theorem dX11_shape_30 : decode cX11_shape 30 = .ok (.iconst 0, 1) := by decide +kernel
theorem dX11_shape_31 : decode cX11_shape 31 = .ok (.istore_n 3, 1) := by decide +kernel
theorem dX11_shape_32 : decode cX11_shape 32 = .ok (.iconst 0, 1) := by decide +kernel
theorem dX11_shape_33 : decode cX11_shape 33 = .ok (.istore 4, 2) := by decide +kernel
theorem dX11_shape_35 : decode cX11_shape 35 = .ok (.iload 4, 2) := by decide +kernel
theorem dX11_shape_37 : decode cX11_shape 37 = .ok (.aload_n 0, 1) := by decide +kernel
theorem dX11_shape_38 : decode cX11_shape 38 = .ok (.getfield 26, 3) := by decide +kernel
theorem dX11_shape_41 : decode cX11_shape 41 = .ok (.iload_n 1, 1) := by decide +kernel
theorem dX11_shape_42 : decode cX11_shape 42 = .ok (.iconst 1, 1) := by decide +kernel
theorem dX11_shape_43 : decode cX11_shape 43 = .ok (.isub, 1) := by decide +kernel
theorem dX11_shape_44 : decode cX11_shape 44 = .ok (.iaload, 1) := by decide +kernel
theorem dX11_shape_45 : decode cX11_shape 45 = .ok (.if_icmp .ge 82, 3) := by decide +kernel
theorem dX11_shape_48 : decode cX11_shape 48 = .ok (.iload_n 2, 1) := by decide +kernel
theorem dX11_shape_49 : decode cX11_shape 49 = .ok (.ifCond .ne 15, 3) := by decide +kernel
theorem dX11_shape_52 : decode cX11_shape 52 = .ok (.iload_n 3, 1) := by decide +kernel
theorem dX11_shape_53 : decode cX11_shape 53 = .ok (.aload_n 0, 1) := by decide +kernel
theorem dX11_shape_54 : decode cX11_shape 54 = .ok (.iload_n 1, 1) := by decide +kernel
theorem dX11_shape_55 : decode cX11_shape 55 = .ok (.iload 4, 2) := by decide +kernel
theorem dX11_shape_57 : decode cX11_shape 57 = .ok (.invokevirtual 355, 3) := by decide +kernel
theorem dX11_shape_60 : decode cX11_shape 60 = .ok (.invokestatic 358, 3) := by decide +kernel
theorem dX11_shape_63 : decode cX11_shape 63 = .ok (.istore_n 3, 1) := by decide +kernel
theorem dX11_shape_64 : decode cX11_shape 64 = .ok (.iload_n 2, 1) := by decide +kernel
theorem dX11_shape_65 : decode cX11_shape 65 = .ok (.iconst 1, 1) := by decide +kernel
theorem dX11_shape_66 : decode cX11_shape 66 = .ok (.if_icmp .ne 15, 3) := by decide +kernel
theorem dX11_shape_69 : decode cX11_shape 69 = .ok (.iload_n 3, 1) := by decide +kernel
theorem dX11_shape_70 : decode cX11_shape 70 = .ok (.aload_n 0, 1) := by decide +kernel
theorem dX11_shape_71 : decode cX11_shape 71 = .ok (.iload_n 1, 1) := by decide +kernel
theorem dX11_shape_72 : decode cX11_shape 72 = .ok (.iload 4, 2) := by decide +kernel
theorem dX11_shape_74 : decode cX11_shape 74 = .ok (.invokevirtual 363, 3) := by decide +kernel
theorem dX11_shape_77 : decode cX11_shape 77 = .ok (.invokestatic 358, 3) := by decide +kernel
theorem dX11_shape_80 : decode cX11_shape 80 = .ok (.istore_n 3, 1) := by decide +kernel
theorem dX11_shape_81 : decode cX11_shape 81 = .ok (.iload_n 2, 1) := by decide +kernel
theorem dX11_shape_82 : decode cX11_shape 82 = .ok (.iconst 2, 1) := by decide +kernel
theorem dX11_shape_83 : decode cX11_shape 83 = .ok (.if_icmp .ne 17, 3) := by decide +kernel
theorem dX11_shape_86 : decode cX11_shape 86 = .ok (.aload_n 0, 1) := by decide +kernel
theorem dX11_shape_87 : decode cX11_shape 87 = .ok (.iload_n 1, 1) := by decide +kernel
theorem dX11_shape_88 : decode cX11_shape 88 = .ok (.iload 4, 2) := by decide +kernel
theorem dX11_shape_90 : decode cX11_shape 90 = .ok (.invokevirtual 366, 3) := by decide +kernel
theorem dX11_shape_93 : decode cX11_shape 93 = .ok (.ifCond .eq 7, 3) := by decide +kernel
theorem dX11_shape_96 : decode cX11_shape 96 = .ok (.iload_n 3, 1) := by decide +kernel
theorem dX11_shape_97 : decode cX11_shape 97 = .ok (.iconst 1, 1) := by decide +kernel
theorem dX11_shape_98 : decode cX11_shape 98 = .ok (.iadd, 1) := by decide +kernel
theorem dX11_shape_99 : decode cX11_shape 99 = .ok (.istore_n 3, 1) := by decide +kernel
theorem dX11_shape_100 : decode cX11_shape 100 = .ok (.iload_n 2, 1) := by decide +kernel
theorem dX11_shape_101 : decode cX11_shape 101 = .ok (.iconst 3, 1) := by decide +kernel
theorem dX11_shape_102 : decode cX11_shape 102 = .ok (.if_icmp .ne 19, 3) := by decide +kernel
theorem dX11_shape_105 : decode cX11_shape 105 = .ok (.iload_n 3, 1) := by decide +kernel
theorem dX11_shape_106 : decode cX11_shape 106 = .ok (.aload_n 0, 1) := by decide +kernel
theorem dX11_shape_107 : decode cX11_shape 107 = .ok (.getfield 30, 3) := by decide +kernel
theorem dX11_shape_110 : decode cX11_shape 110 = .ok (.aload_n 0, 1) := by decide +kernel
theorem dX11_shape_111 : decode cX11_shape 111 = .ok (.iload_n 1, 1) := by decide +kernel
theorem dX11_shape_112 : decode cX11_shape 112 = .ok (.iload 4, 2) := by decide +kernel
theorem dX11_shape_114 : decode cX11_shape 114 = .ok (.invokevirtual 352, 3) := by decide +kernel
theorem dX11_shape_117 : decode cX11_shape 117 = .ok (.laload, 1) := by decide +kernel
theorem dX11_shape_118 : decode cX11_shape 118 = .ok (.l2i, 1) := by decide +kernel
theorem dX11_shape_119 : decode cX11_shape 119 = .ok (.iadd, 1) := by decide +kernel
theorem dX11_shape_120 : decode cX11_shape 120 = .ok (.istore_n 3, 1) := by decide +kernel
theorem dX11_shape_121 : decode cX11_shape 121 = .ok (.iinc 4 1, 3) := by decide +kernel
theorem dX11_shape_124 : decode cX11_shape 124 = .ok (.goto (-89), 3) := by decide +kernel
theorem dX11_shape_127 : decode cX11_shape 127 = .ok (.iload_n 3, 1) := by decide +kernel
theorem dX11_shape_128 : decode cX11_shape 128 = .ok (.ireturn, 1) := by decide +kernel
theorem dX11_layer_0 : decode cX11_layer 0 = .ok (.iconst 0, 1) := by decide +kernel
theorem dX11_layer_1 : decode cX11_layer 1 = .ok (.istore_n 2, 1) := by decide +kernel
theorem dX11_layer_2 : decode cX11_layer 2 = .ok (.iload_n 2, 1) := by decide +kernel
theorem dX11_layer_3 : decode cX11_layer 3 = .ok (.aload_n 0, 1) := by decide +kernel
theorem dX11_layer_4 : decode cX11_layer 4 = .ok (.invokevirtual 88, 3) := by decide +kernel
theorem dX11_layer_7 : decode cX11_layer 7 = .ok (.if_icmp .ge 26, 3) := by decide +kernel
theorem dX11_layer_10 : decode cX11_layer 10 = .ok (.aload_n 0, 1) := by decide +kernel
theorem dX11_layer_11 : decode cX11_layer 11 = .ok (.iload_n 1, 1) := by decide +kernel
theorem dX11_layer_12 : decode cX11_layer 12 = .ok (.iload_n 2, 1) := by decide +kernel
theorem dX11_layer_13 : decode cX11_layer 13 = .ok (.invokevirtual 166, 3) := by decide +kernel
theorem dX11_layer_16 : decode cX11_layer 16 = .ok (.lconst 0, 1) := by decide +kernel
theorem dX11_layer_17 : decode cX11_layer 17 = .ok (.lcmp, 1) := by decide +kernel
theorem dX11_layer_18 : decode cX11_layer 18 = .ok (.ifCond .eq 9, 3) := by decide +kernel
theorem dX11_layer_21 : decode cX11_layer 21 = .ok (.aload_n 0, 1) := by decide +kernel
theorem dX11_layer_22 : decode cX11_layer 22 = .ok (.iload_n 2, 1) := by decide +kernel
theorem dX11_layer_23 : decode cX11_layer 23 = .ok (.invokevirtual 92, 3) := by decide +kernel
theorem dX11_layer_26 : decode cX11_layer 26 = .ok (.ireturn, 1) := by decide +kernel
theorem dX11_layer_27 : decode cX11_layer 27 = .ok (.iinc 2 1, 3) := by decide +kernel
theorem dX11_layer_30 : decode cX11_layer 30 = .ok (.goto (-28), 3) := by decide +kernel
theorem dX11_layer_33 : decode cX11_layer 33 = .ok (.aload_n 0, 1) := by decide +kernel
theorem dX11_layer_34 : decode cX11_layer 34 = .ok (.invokevirtual 263, 3) := by decide +kernel
theorem dX11_layer_37 : decode cX11_layer 37 = .ok (.iconst 1, 1) := by decide +kernel
theorem dX11_layer_38 : decode cX11_layer 38 = .ok (.iadd, 1) := by decide +kernel
theorem dX11_layer_39 : decode cX11_layer 39 = .ok (.ireturn, 1) := by decide +kernel
theorem dX11_place_0 : decode cX11_place 0 = .ok (.iconst 0, 1) := by decide +kernel
theorem dX11_place_1 : decode cX11_place 1 = .ok (.istore_n 2, 1) := by decide +kernel
theorem dX11_place_2 : decode cX11_place 2 = .ok (.iload_n 2, 1) := by decide +kernel
theorem dX11_place_3 : decode cX11_place 3 = .ok (.aload_n 0, 1) := by decide +kernel
theorem dX11_place_4 : decode cX11_place 4 = .ok (.getfield 369, 3) := by decide +kernel
theorem dX11_place_7 : decode cX11_place 7 = .ok (.if_icmp .ge 68, 3) := by decide +kernel
theorem dX11_place_10 : decode cX11_place 10 = .ok (.iconst 1, 1) := by decide +kernel
theorem dX11_place_11 : decode cX11_place 11 = .ok (.istore_n 3, 1) := by decide +kernel
theorem dX11_place_12 : decode cX11_place 12 = .ok (.iconst 0, 1) := by decide +kernel
theorem dX11_place_13 : decode cX11_place 13 = .ok (.istore 4, 2) := by decide +kernel
theorem dX11_place_15 : decode cX11_place 15 = .ok (.iload 4, 2) := by decide +kernel
theorem dX11_place_17 : decode cX11_place 17 = .ok (.aload_n 0, 1) := by decide +kernel
theorem dX11_place_18 : decode cX11_place 18 = .ok (.invokevirtual 88, 3) := by decide +kernel
theorem dX11_place_21 : decode cX11_place 21 = .ok (.if_icmp .ge 42, 3) := by decide +kernel
theorem dX11_place_24 : decode cX11_place 24 = .ok (.iload_n 3, 1) := by decide +kernel
theorem dX11_place_25 : decode cX11_place 25 = .ok (.ifCond .eq 38, 3) := by decide +kernel
theorem dX11_place_28 : decode cX11_place 28 = .ok (.aload_n 0, 1) := by decide +kernel
theorem dX11_place_29 : decode cX11_place 29 = .ok (.getfield 58, 3) := by decide +kernel
theorem dX11_place_32 : decode cX11_place 32 = .ok (.bipush 6, 2) := by decide +kernel
theorem dX11_place_34 : decode cX11_place 34 = .ok (.iload_n 2, 1) := by decide +kernel
theorem dX11_place_35 : decode cX11_place 35 = .ok (.imul, 1) := by decide +kernel
theorem dX11_place_36 : decode cX11_place 36 = .ok (.iload 4, 2) := by decide +kernel
theorem dX11_place_38 : decode cX11_place 38 = .ok (.iadd, 1) := by decide +kernel
theorem dX11_place_39 : decode cX11_place 39 = .ok (.laload, 1) := by decide +kernel
theorem dX11_place_40 : decode cX11_place 40 = .ok (.aload_n 0, 1) := by decide +kernel
theorem dX11_place_41 : decode cX11_place 41 = .ok (.iload_n 1, 1) := by decide +kernel
theorem dX11_place_42 : decode cX11_place 42 = .ok (.iload 4, 2) := by decide +kernel
theorem dX11_place_44 : decode cX11_place 44 = .ok (.invokevirtual 166, 3) := by decide +kernel
theorem dX11_place_47 : decode cX11_place 47 = .ok (.lcmp, 1) := by decide +kernel
theorem dX11_place_48 : decode cX11_place 48 = .ok (.ifCond .ne 7, 3) := by decide +kernel
theorem dX11_place_51 : decode cX11_place 51 = .ok (.iconst 1, 1) := by decide +kernel
theorem dX11_place_52 : decode cX11_place 52 = .ok (.goto 4, 3) := by decide +kernel
theorem dX11_place_55 : decode cX11_place 55 = .ok (.iconst 0, 1) := by decide +kernel
theorem dX11_place_56 : decode cX11_place 56 = .ok (.istore_n 3, 1) := by decide +kernel
theorem dX11_place_57 : decode cX11_place 57 = .ok (.iinc 4 1, 3) := by decide +kernel
theorem dX11_place_60 : decode cX11_place 60 = .ok (.goto (-45), 3) := by decide +kernel
theorem dX11_place_63 : decode cX11_place 63 = .ok (.iload_n 3, 1) := by decide +kernel
theorem dX11_place_64 : decode cX11_place 64 = .ok (.ifCond .eq 5, 3) := by decide +kernel
theorem dX11_place_67 : decode cX11_place 67 = .ok (.iload_n 2, 1) := by decide +kernel
theorem dX11_place_68 : decode cX11_place 68 = .ok (.ireturn, 1) := by decide +kernel
theorem dX11_place_69 : decode cX11_place 69 = .ok (.iinc 2 1, 3) := by decide +kernel
theorem dX11_place_72 : decode cX11_place 72 = .ok (.goto (-70), 3) := by decide +kernel
theorem dX11_place_75 : decode cX11_place 75 = .ok (.aload_n 0, 1) := by decide +kernel
theorem dX11_place_76 : decode cX11_place 76 = .ok (.getfield 369, 3) := by decide +kernel
theorem dX11_place_79 : decode cX11_place 79 = .ok (.ireturn, 1) := by decide +kernel
theorem dX11_meets_0 : decode cX11_meets 0 = .ok (.aload_n 0, 1) := by decide +kernel
theorem dX11_meets_1 : decode cX11_meets 1 = .ok (.iload_n 1, 1) := by decide +kernel
theorem dX11_meets_2 : decode cX11_meets 2 = .ok (.invokevirtual 372, 3) := by decide +kernel
theorem dX11_meets_5 : decode cX11_meets 5 = .ok (.istore_n 2, 1) := by decide +kernel
theorem dX11_meets_6 : decode cX11_meets 6 = .ok (.iload_n 2, 1) := by decide +kernel
theorem dX11_meets_7 : decode cX11_meets 7 = .ok (.aload_n 0, 1) := by decide +kernel
theorem dX11_meets_8 : decode cX11_meets 8 = .ok (.getfield 369, 3) := by decide +kernel
theorem dX11_meets_11 : decode cX11_meets 11 = .ok (.if_icmp .ge 4, 3) := by decide +kernel
theorem dX11_meets_14 : decode cX11_meets 14 = .ok (.return_, 1) := by decide +kernel
theorem dX11_meets_15 : decode cX11_meets 15 = .ok (.iconst 0, 1) := by decide +kernel
theorem dX11_meets_16 : decode cX11_meets 16 = .ok (.istore_n 3, 1) := by decide +kernel
theorem dX11_meets_17 : decode cX11_meets 17 = .ok (.iload_n 3, 1) := by decide +kernel
theorem dX11_meets_18 : decode cX11_meets 18 = .ok (.bipush 6, 2) := by decide +kernel
theorem dX11_meets_20 : decode cX11_meets 20 = .ok (.if_icmp .ge 26, 3) := by decide +kernel
theorem dX11_meets_23 : decode cX11_meets 23 = .ok (.aload_n 0, 1) := by decide +kernel
theorem dX11_meets_24 : decode cX11_meets 24 = .ok (.getfield 58, 3) := by decide +kernel
theorem dX11_meets_27 : decode cX11_meets 27 = .ok (.bipush 6, 2) := by decide +kernel
theorem dX11_meets_29 : decode cX11_meets 29 = .ok (.iload_n 2, 1) := by decide +kernel
theorem dX11_meets_30 : decode cX11_meets 30 = .ok (.imul, 1) := by decide +kernel
theorem dX11_meets_31 : decode cX11_meets 31 = .ok (.iload_n 3, 1) := by decide +kernel
theorem dX11_meets_32 : decode cX11_meets 32 = .ok (.iadd, 1) := by decide +kernel
theorem dX11_meets_33 : decode cX11_meets 33 = .ok (.aload_n 0, 1) := by decide +kernel
theorem dX11_meets_34 : decode cX11_meets 34 = .ok (.iload_n 1, 1) := by decide +kernel
theorem dX11_meets_35 : decode cX11_meets 35 = .ok (.iload_n 3, 1) := by decide +kernel
theorem dX11_meets_36 : decode cX11_meets 36 = .ok (.invokevirtual 166, 3) := by decide +kernel
theorem dX11_meets_39 : decode cX11_meets 39 = .ok (.lastore, 1) := by decide +kernel
theorem dX11_meets_40 : decode cX11_meets 40 = .ok (.iinc 3 1, 3) := by decide +kernel
theorem dX11_meets_43 : decode cX11_meets 43 = .ok (.goto (-26), 3) := by decide +kernel
theorem dX11_meets_46 : decode cX11_meets 46 = .ok (.aload_n 0, 1) := by decide +kernel
theorem dX11_meets_47 : decode cX11_meets 47 = .ok (.aload_n 0, 1) := by decide +kernel
theorem dX11_meets_48 : decode cX11_meets 48 = .ok (.getfield 369, 3) := by decide +kernel
theorem dX11_meets_51 : decode cX11_meets 51 = .ok (.iconst 1, 1) := by decide +kernel
theorem dX11_meets_52 : decode cX11_meets 52 = .ok (.iadd, 1) := by decide +kernel
theorem dX11_meets_53 : decode cX11_meets 53 = .ok (.putfield 369, 3) := by decide +kernel
theorem dX11_meets_56 : decode cX11_meets 56 = .ok (.return_, 1) := by decide +kernel
theorem dX11_laysBall_0 : decode cX11_laysBall 0 = .ok (.aload_n 0, 1) := by decide +kernel
theorem dX11_laysBall_1 : decode cX11_laysBall 1 = .ok (.iconst 0, 1) := by decide +kernel
theorem dX11_laysBall_2 : decode cX11_laysBall 2 = .ok (.putfield 369, 3) := by decide +kernel
theorem dX11_laysBall_5 : decode cX11_laysBall 5 = .ok (.aload_n 0, 1) := by decide +kernel
theorem dX11_laysBall_6 : decode cX11_laysBall 6 = .ok (.bipush 20, 2) := by decide +kernel
theorem dX11_laysBall_8 : decode cX11_laysBall 8 = .ok (.invokevirtual 190, 3) := by decide +kernel
theorem dX11_laysBall_11 : decode cX11_laysBall 11 = .ok (.aload_n 0, 1) := by decide +kernel
theorem dX11_laysBall_12 : decode cX11_laysBall 12 = .ok (.bipush 20, 2) := by decide +kernel
theorem dX11_laysBall_14 : decode cX11_laysBall 14 = .ok (.invokevirtual 375, 3) := by decide +kernel
theorem dX11_laysBall_17 : decode cX11_laysBall 17 = .ok (.iconst 0, 1) := by decide +kernel
theorem dX11_laysBall_18 : decode cX11_laysBall 18 = .ok (.istore_n 2, 1) := by decide +kernel
theorem dX11_laysBall_19 : decode cX11_laysBall 19 = .ok (.iconst 0, 1) := by decide +kernel
theorem dX11_laysBall_20 : decode cX11_laysBall 20 = .ok (.istore_n 3, 1) := by decide +kernel
theorem dX11_laysBall_21 : decode cX11_laysBall 21 = .ok (.iload_n 3, 1) := by decide +kernel
theorem dX11_laysBall_22 : decode cX11_laysBall 22 = .ok (.iload_n 1, 1) := by decide +kernel
theorem dX11_laysBall_23 : decode cX11_laysBall 23 = .ok (.if_icmp .ge 151, 3) := by decide +kernel
theorem dX11_laysBall_26 : decode cX11_laysBall 26 = .ok (.aload_n 0, 1) := by decide +kernel
theorem dX11_laysBall_27 : decode cX11_laysBall 27 = .ok (.getfield 369, 3) := by decide +kernel
theorem dX11_laysBall_30 : decode cX11_laysBall 30 = .ok (.istore 4, 2) := by decide +kernel
theorem dX11_laysBall_32 : decode cX11_laysBall 32 = .ok (.iload_n 2, 1) := by decide +kernel
theorem dX11_laysBall_33 : decode cX11_laysBall 33 = .ok (.istore 5, 2) := by decide +kernel
theorem dX11_laysBall_35 : decode cX11_laysBall 35 = .ok (.iload 5, 2) := by decide +kernel
theorem dX11_laysBall_37 : decode cX11_laysBall 37 = .ok (.iload 4, 2) := by decide +kernel
theorem dX11_laysBall_39 : decode cX11_laysBall 39 = .ok (.if_icmp .ge 126, 3) := by decide +kernel
theorem dX11_laysBall_42 : decode cX11_laysBall 42 = .ok (.iconst 0, 1) := by decide +kernel
theorem dX11_laysBall_43 : decode cX11_laysBall 43 = .ok (.istore 6, 2) := by decide +kernel
theorem dX11_laysBall_45 : decode cX11_laysBall 45 = .ok (.iload 6, 2) := by decide +kernel
theorem dX11_laysBall_47 : decode cX11_laysBall 47 = .ok (.iconst 2, 1) := by decide +kernel
theorem dX11_laysBall_48 : decode cX11_laysBall 48 = .ok (.aload_n 0, 1) := by decide +kernel
theorem dX11_laysBall_49 : decode cX11_laysBall 49 = .ok (.invokevirtual 88, 3) := by decide +kernel
theorem dX11_laysBall_52 : decode cX11_laysBall 52 = .ok (.imul, 1) := by decide +kernel
theorem dX11_laysBall_53 : decode cX11_laysBall 53 = .ok (.if_icmp .ge 106, 3) := by decide +kernel
theorem dX11_laysBall_56 : decode cX11_laysBall 56 = .ok (.aload_n 0, 1) := by decide +kernel
theorem dX11_laysBall_57 : decode cX11_laysBall 57 = .ok (.iload 6, 2) := by decide +kernel
theorem dX11_laysBall_59 : decode cX11_laysBall 59 = .ok (.iconst 2, 1) := by decide +kernel
theorem dX11_laysBall_60 : decode cX11_laysBall 60 = .ok (.idiv, 1) := by decide +kernel
theorem dX11_laysBall_61 : decode cX11_laysBall 61 = .ok (.invokevirtual 92, 3) := by decide +kernel
theorem dX11_laysBall_64 : decode cX11_laysBall 64 = .ok (.iconst 1, 1) := by decide +kernel
theorem dX11_laysBall_65 : decode cX11_laysBall 65 = .ok (.if_icmp .le 6, 3) := by decide +kernel
theorem dX11_laysBall_68 : decode cX11_laysBall 68 = .ok (.goto 85, 3) := by decide +kernel
theorem dX11_laysBall_71 : decode cX11_laysBall 71 = .ok (.iconst 0, 1) := by decide +kernel
theorem dX11_laysBall_72 : decode cX11_laysBall 72 = .ok (.istore 7, 2) := by decide +kernel
theorem dX11_laysBall_74 : decode cX11_laysBall 74 = .ok (.iload 7, 2) := by decide +kernel
theorem dX11_laysBall_76 : decode cX11_laysBall 76 = .ok (.bipush 6, 2) := by decide +kernel
theorem dX11_laysBall_78 : decode cX11_laysBall 78 = .ok (.if_icmp .ge 30, 3) := by decide +kernel
theorem dX11_laysBall_81 : decode cX11_laysBall 81 = .ok (.aload_n 0, 1) := by decide +kernel
theorem dX11_laysBall_82 : decode cX11_laysBall 82 = .ok (.bipush 20, 2) := by decide +kernel
theorem dX11_laysBall_84 : decode cX11_laysBall 84 = .ok (.iload 7, 2) := by decide +kernel
theorem dX11_laysBall_86 : decode cX11_laysBall 86 = .ok (.aload_n 0, 1) := by decide +kernel
theorem dX11_laysBall_87 : decode cX11_laysBall 87 = .ok (.getfield 58, 3) := by decide +kernel
theorem dX11_laysBall_90 : decode cX11_laysBall 90 = .ok (.bipush 6, 2) := by decide +kernel
theorem dX11_laysBall_92 : decode cX11_laysBall 92 = .ok (.iload 5, 2) := by decide +kernel
theorem dX11_laysBall_94 : decode cX11_laysBall 94 = .ok (.imul, 1) := by decide +kernel
theorem dX11_laysBall_95 : decode cX11_laysBall 95 = .ok (.iload 7, 2) := by decide +kernel
theorem dX11_laysBall_97 : decode cX11_laysBall 97 = .ok (.iadd, 1) := by decide +kernel
theorem dX11_laysBall_98 : decode cX11_laysBall 98 = .ok (.laload, 1) := by decide +kernel
theorem dX11_laysBall_99 : decode cX11_laysBall 99 = .ok (.invokevirtual 162, 3) := by decide +kernel
theorem dX11_laysBall_102 : decode cX11_laysBall 102 = .ok (.iinc 7 1, 3) := by decide +kernel
theorem dX11_laysBall_105 : decode cX11_laysBall 105 = .ok (.goto (-31), 3) := by decide +kernel
theorem dX11_laysBall_108 : decode cX11_laysBall 108 = .ok (.aload_n 0, 1) := by decide +kernel
theorem dX11_laysBall_109 : decode cX11_laysBall 109 = .ok (.bipush 20, 2) := by decide +kernel
theorem dX11_laysBall_111 : decode cX11_laysBall 111 = .ok (.iload 6, 2) := by decide +kernel
theorem dX11_laysBall_113 : decode cX11_laysBall 113 = .ok (.iconst 2, 1) := by decide +kernel
theorem dX11_laysBall_114 : decode cX11_laysBall 114 = .ok (.idiv, 1) := by decide +kernel
theorem dX11_laysBall_115 : decode cX11_laysBall 115 = .ok (.iload 6, 2) := by decide +kernel
theorem dX11_laysBall_117 : decode cX11_laysBall 117 = .ok (.iconst 2, 1) := by decide +kernel
theorem dX11_laysBall_118 : decode cX11_laysBall 118 = .ok (.irem, 1) := by decide +kernel
theorem dX11_laysBall_119 : decode cX11_laysBall 119 = .ok (.ifCond .ne 7, 3) := by decide +kernel
theorem dX11_laysBall_122 : decode cX11_laysBall 122 = .ok (.lconst 1, 1) := by decide +kernel
theorem dX11_laysBall_123 : decode cX11_laysBall 123 = .ok (.goto 6, 3) := by decide +kernel
theorem dX11_laysBall_126 : decode cX11_laysBall 126 = .ok (.ldc2_w 221, 3) := by decide +kernel
theorem dX11_laysBall_129 : decode cX11_laysBall 129 = .ok (.invokevirtual 187, 3) := by decide +kernel
theorem dX11_laysBall_132 : decode cX11_laysBall 132 = .ok (.aload_n 0, 1) := by decide +kernel
theorem dX11_laysBall_133 : decode cX11_laysBall 133 = .ok (.bipush 20, 2) := by decide +kernel
theorem dX11_laysBall_135 : decode cX11_laysBall 135 = .ok (.invokevirtual 375, 3) := by decide +kernel
theorem dX11_laysBall_138 : decode cX11_laysBall 138 = .ok (.aload_n 0, 1) := by decide +kernel
theorem dX11_laysBall_139 : decode cX11_laysBall 139 = .ok (.getfield 369, 3) := by decide +kernel
theorem dX11_laysBall_142 : decode cX11_laysBall 142 = .ok (.sipush 1000, 3) := by decide +kernel
theorem dX11_laysBall_145 : decode cX11_laysBall 145 = .ok (.if_icmp .le 8, 3) := by decide +kernel
theorem dX11_laysBall_148 : decode cX11_laysBall 148 = .ok (.aload_n 0, 1) := by decide +kernel
theorem dX11_laysBall_149 : decode cX11_laysBall 149 = .ok (.getfield 369, 3) := by decide +kernel
theorem dX11_laysBall_152 : decode cX11_laysBall 152 = .ok (.ireturn, 1) := by decide +kernel
theorem dX11_laysBall_153 : decode cX11_laysBall 153 = .ok (.iinc 6 1, 3) := by decide +kernel
theorem dX11_laysBall_156 : decode cX11_laysBall 156 = .ok (.goto (-111), 3) := by decide +kernel
theorem dX11_laysBall_159 : decode cX11_laysBall 159 = .ok (.iinc 5 1, 3) := by decide +kernel
theorem dX11_laysBall_162 : decode cX11_laysBall 162 = .ok (.goto (-127), 3) := by decide +kernel
theorem dX11_laysBall_165 : decode cX11_laysBall 165 = .ok (.iload 4, 2) := by decide +kernel
theorem dX11_laysBall_167 : decode cX11_laysBall 167 = .ok (.istore_n 2, 1) := by decide +kernel
theorem dX11_laysBall_168 : decode cX11_laysBall 168 = .ok (.iinc 3 1, 3) := by decide +kernel
theorem dX11_laysBall_171 : decode cX11_laysBall 171 = .ok (.goto (-150), 3) := by decide +kernel
theorem dX11_laysBall_174 : decode cX11_laysBall 174 = .ok (.aload_n 0, 1) := by decide +kernel
theorem dX11_laysBall_175 : decode cX11_laysBall 175 = .ok (.getfield 369, 3) := by decide +kernel
theorem dX11_laysBall_178 : decode cX11_laysBall 178 = .ok (.ireturn, 1) := by decide +kernel
theorem dX11_ball_0 : decode cX11_ball 0 = .ok (.aload_n 0, 1) := by decide +kernel
theorem dX11_ball_1 : decode cX11_ball 1 = .ok (.iconst 0, 1) := by decide +kernel
theorem dX11_ball_2 : decode cX11_ball 2 = .ok (.putfield 1, 3) := by decide +kernel
theorem dX11_ball_5 : decode cX11_ball 5 = .ok (.aload_n 0, 1) := by decide +kernel
theorem dX11_ball_6 : decode cX11_ball 6 = .ok (.iload_n 1, 1) := by decide +kernel
theorem dX11_ball_7 : decode cX11_ball 7 = .ok (.i2l, 1) := by decide +kernel
theorem dX11_ball_8 : decode cX11_ball 8 = .ok (.lconst 0, 1) := by decide +kernel
theorem dX11_ball_9 : decode cX11_ball 9 = .ok (.ldc2_w 378, 3) := by decide +kernel
theorem dX11_ball_12 : decode cX11_ball 12 = .ok (.invokevirtual 101, 3) := by decide +kernel
theorem dX11_ball_15 : decode cX11_ball 15 = .ok (.ifCond .eq 10, 3) := by decide +kernel
theorem dX11_ball_18 : decode cX11_ball 18 = .ok (.aload_n 0, 1) := by decide +kernel
theorem dX11_ball_19 : decode cX11_ball 19 = .ok (.invokevirtual 235, 3) := by decide +kernel
theorem dX11_ball_22 : decode cX11_ball 22 = .ok (.ifCond .ne 5, 3) := by decide +kernel
theorem dX11_ball_25 : decode cX11_ball 25 = .ok (.iconst (-1), 1) := by decide +kernel
theorem dX11_ball_26 : decode cX11_ball 26 = .ok (.ireturn, 1) := by decide +kernel
theorem dX11_ball_27 : decode cX11_ball 27 = .ok (.aload_n 0, 1) := by decide +kernel
theorem dX11_ball_28 : decode cX11_ball 28 = .ok (.iload_n 1, 1) := by decide +kernel
theorem dX11_ball_29 : decode cX11_ball 29 = .ok (.invokevirtual 380, 3) := by decide +kernel
theorem dX11_ball_32 : decode cX11_ball 32 = .ok (.istore_n 2, 1) := by decide +kernel
theorem dX11_ball_33 : decode cX11_ball 33 = .ok (.iload_n 2, 1) := by decide +kernel
theorem dX11_ball_34 : decode cX11_ball 34 = .ok (.sipush 1000, 3) := by decide +kernel
theorem dX11_ball_37 : decode cX11_ball 37 = .ok (.if_icmp .le 7, 3) := by decide +kernel
theorem dX11_ball_40 : decode cX11_ball 40 = .ok (.iconst (-1), 1) := by decide +kernel
theorem dX11_ball_41 : decode cX11_ball 41 = .ok (.goto 4, 3) := by decide +kernel
theorem dX11_ball_44 : decode cX11_ball 44 = .ok (.iload_n 2, 1) := by decide +kernel
theorem dX11_ball_45 : decode cX11_ball 45 = .ok (.ireturn, 1) := by decide +kernel
theorem dX11_shortOf_0 : decode cX11_shortOf 0 = .ok (.iconst 0, 1) := by decide +kernel
theorem dX11_shortOf_1 : decode cX11_shortOf 1 = .ok (.istore_n 2, 1) := by decide +kernel
theorem dX11_shortOf_2 : decode cX11_shortOf 2 = .ok (.iload_n 2, 1) := by decide +kernel
theorem dX11_shortOf_3 : decode cX11_shortOf 3 = .ok (.iconst 4, 1) := by decide +kernel
theorem dX11_shortOf_4 : decode cX11_shortOf 4 = .ok (.if_icmp .gt 36, 3) := by decide +kernel
theorem dX11_shortOf_7 : decode cX11_shortOf 7 = .ok (.aload_n 0, 1) := by decide +kernel
theorem dX11_shortOf_8 : decode cX11_shortOf 8 = .ok (.iload_n 2, 1) := by decide +kernel
theorem dX11_shortOf_9 : decode cX11_shortOf 9 = .ok (.invokevirtual 380, 3) := by decide +kernel
theorem dX11_shortOf_12 : decode cX11_shortOf 12 = .ok (.sipush 1000, 3) := by decide +kernel
theorem dX11_shortOf_15 : decode cX11_shortOf 15 = .ok (.if_icmp .le 5, 3) := by decide +kernel
theorem dX11_shortOf_18 : decode cX11_shortOf 18 = .ok (.iconst (-1), 1) := by decide +kernel
theorem dX11_shortOf_19 : decode cX11_shortOf 19 = .ok (.ireturn, 1) := by decide +kernel
theorem dX11_shortOf_20 : decode cX11_shortOf 20 = .ok (.aload_n 0, 1) := by decide +kernel
theorem dX11_shortOf_21 : decode cX11_shortOf 21 = .ok (.iload_n 1, 1) := by decide +kernel
theorem dX11_shortOf_22 : decode cX11_shortOf 22 = .ok (.invokevirtual 372, 3) := by decide +kernel
theorem dX11_shortOf_25 : decode cX11_shortOf 25 = .ok (.aload_n 0, 1) := by decide +kernel
theorem dX11_shortOf_26 : decode cX11_shortOf 26 = .ok (.getfield 369, 3) := by decide +kernel
theorem dX11_shortOf_29 : decode cX11_shortOf 29 = .ok (.if_icmp .ge 5, 3) := by decide +kernel
theorem dX11_shortOf_32 : decode cX11_shortOf 32 = .ok (.iload_n 2, 1) := by decide +kernel
theorem dX11_shortOf_33 : decode cX11_shortOf 33 = .ok (.ireturn, 1) := by decide +kernel
theorem dX11_shortOf_34 : decode cX11_shortOf 34 = .ok (.iinc 2 1, 3) := by decide +kernel
theorem dX11_shortOf_37 : decode cX11_shortOf 37 = .ok (.goto (-35), 3) := by decide +kernel
theorem dX11_shortOf_40 : decode cX11_shortOf 40 = .ok (.iconst (-1), 1) := by decide +kernel
theorem dX11_shortOf_41 : decode cX11_shortOf 41 = .ok (.ireturn, 1) := by decide +kernel
theorem dX11_greatestRoot_0 : decode cX11_greatestRoot 0 = .ok (.bipush 99, 2) := by decide +kernel
theorem dX11_greatestRoot_2 : decode cX11_greatestRoot 2 = .ok (.istore_n 2, 1) := by decide +kernel
theorem dX11_greatestRoot_3 : decode cX11_greatestRoot 3 = .ok (.iload_n 2, 1) := by decide +kernel
theorem dX11_greatestRoot_4 : decode cX11_greatestRoot 4 = .ok (.iconst 1, 1) := by decide +kernel
theorem dX11_greatestRoot_5 : decode cX11_greatestRoot 5 = .ok (.if_icmp .le 29, 3) := by decide +kernel
theorem dX11_greatestRoot_8 : decode cX11_greatestRoot 8 = .ok (.aload_n 0, 1) := by decide +kernel
theorem dX11_greatestRoot_9 : decode cX11_greatestRoot 9 = .ok (.iload_n 1, 1) := by decide +kernel
theorem dX11_greatestRoot_10 : decode cX11_greatestRoot 10 = .ok (.iconst 1, 1) := by decide +kernel
theorem dX11_greatestRoot_11 : decode cX11_greatestRoot 11 = .ok (.iload_n 2, 1) := by decide +kernel
theorem dX11_greatestRoot_12 : decode cX11_greatestRoot 12 = .ok (.invokevirtual 260, 3) := by decide +kernel
theorem dX11_greatestRoot_15 : decode cX11_greatestRoot 15 = .ok (.ifCond .eq 13, 3) := by decide +kernel
theorem dX11_greatestRoot_18 : decode cX11_greatestRoot 18 = .ok (.aload_n 0, 1) := by decide +kernel
theorem dX11_greatestRoot_19 : decode cX11_greatestRoot 19 = .ok (.iconst 1, 1) := by decide +kernel
theorem dX11_greatestRoot_20 : decode cX11_greatestRoot 20 = .ok (.invokevirtual 225, 3) := by decide +kernel
theorem dX11_greatestRoot_23 : decode cX11_greatestRoot 23 = .ok (.ifCond .eq 5, 3) := by decide +kernel
theorem dX11_greatestRoot_26 : decode cX11_greatestRoot 26 = .ok (.iload_n 2, 1) := by decide +kernel
theorem dX11_greatestRoot_27 : decode cX11_greatestRoot 27 = .ok (.ireturn, 1) := by decide +kernel
theorem dX11_greatestRoot_28 : decode cX11_greatestRoot 28 = .ok (.iinc 2 (-1), 3) := by decide +kernel
theorem dX11_greatestRoot_31 : decode cX11_greatestRoot 31 = .ok (.goto (-28), 3) := by decide +kernel
theorem dX11_greatestRoot_34 : decode cX11_greatestRoot 34 = .ok (.iconst 1, 1) := by decide +kernel
theorem dX11_greatestRoot_35 : decode cX11_greatestRoot 35 = .ok (.ireturn, 1) := by decide +kernel
theorem dX11_sameAs_0 : decode cX11_sameAs 0 = .ok (.iconst 0, 1) := by decide +kernel
theorem dX11_sameAs_1 : decode cX11_sameAs 1 = .ok (.istore_n 2, 1) := by decide +kernel
theorem dX11_sameAs_2 : decode cX11_sameAs 2 = .ok (.iconst 0, 1) := by decide +kernel
theorem dX11_sameAs_3 : decode cX11_sameAs 3 = .ok (.istore_n 3, 1) := by decide +kernel
theorem dX11_sameAs_4 : decode cX11_sameAs 4 = .ok (.iload_n 3, 1) := by decide +kernel
theorem dX11_sameAs_5 : decode cX11_sameAs 5 = .ok (.bipush 10, 2) := by decide +kernel
theorem dX11_sameAs_7 : decode cX11_sameAs 7 = .ok (.if_icmp .ge 30, 3) := by decide +kernel
theorem dX11_sameAs_10 : decode cX11_sameAs 10 = .ok (.aload_n 0, 1) := by decide +kernel
theorem dX11_sameAs_11 : decode cX11_sameAs 11 = .ok (.iconst 1, 1) := by decide +kernel
theorem dX11_sameAs_12 : decode cX11_sameAs 12 = .ok (.iload_n 3, 1) := by decide +kernel
theorem dX11_sameAs_13 : decode cX11_sameAs 13 = .ok (.invokevirtual 241, 3) := by decide +kernel
theorem dX11_sameAs_16 : decode cX11_sameAs 16 = .ok (.aload_n 0, 1) := by decide +kernel
theorem dX11_sameAs_17 : decode cX11_sameAs 17 = .ok (.iconst 0, 1) := by decide +kernel
theorem dX11_sameAs_18 : decode cX11_sameAs 18 = .ok (.iconst 1, 1) := by decide +kernel
theorem dX11_sameAs_19 : decode cX11_sameAs 19 = .ok (.invokevirtual 266, 3) := by decide +kernel
theorem dX11_sameAs_22 : decode cX11_sameAs 22 = .ok (.ifCond .eq 9, 3) := by decide +kernel
theorem dX11_sameAs_25 : decode cX11_sameAs 25 = .ok (.iload_n 2, 1) := by decide +kernel
theorem dX11_sameAs_26 : decode cX11_sameAs 26 = .ok (.iconst 1, 1) := by decide +kernel
theorem dX11_sameAs_27 : decode cX11_sameAs 27 = .ok (.iload_n 3, 1) := by decide +kernel
theorem dX11_sameAs_28 : decode cX11_sameAs 28 = .ok (.ishl, 1) := by decide +kernel
theorem dX11_sameAs_29 : decode cX11_sameAs 29 = .ok (.ior, 1) := by decide +kernel
theorem dX11_sameAs_30 : decode cX11_sameAs 30 = .ok (.istore_n 2, 1) := by decide +kernel
theorem dX11_sameAs_31 : decode cX11_sameAs 31 = .ok (.iinc 3 1, 3) := by decide +kernel
theorem dX11_sameAs_34 : decode cX11_sameAs 34 = .ok (.goto (-30), 3) := by decide +kernel
theorem dX11_sameAs_37 : decode cX11_sameAs 37 = .ok (.iload_n 2, 1) := by decide +kernel
theorem dX11_sameAs_38 : decode cX11_sameAs 38 = .ok (.ireturn, 1) := by decide +kernel
theorem dX11_isMade_0 : decode cX11_isMade 0 = .ok (.iconst 0, 1) := by decide +kernel
theorem dX11_isMade_1 : decode cX11_isMade 1 = .ok (.istore_n 3, 1) := by decide +kernel
theorem dX11_isMade_2 : decode cX11_isMade 2 = .ok (.iload_n 3, 1) := by decide +kernel
theorem dX11_isMade_3 : decode cX11_isMade 3 = .ok (.aload_n 0, 1) := by decide +kernel
theorem dX11_isMade_4 : decode cX11_isMade 4 = .ok (.invokevirtual 88, 3) := by decide +kernel
theorem dX11_isMade_7 : decode cX11_isMade 7 = .ok (.if_icmp .ge 31, 3) := by decide +kernel
theorem dX11_isMade_10 : decode cX11_isMade 10 = .ok (.aload_n 0, 1) := by decide +kernel
theorem dX11_isMade_11 : decode cX11_isMade 11 = .ok (.iload_n 3, 1) := by decide +kernel
theorem dX11_isMade_12 : decode cX11_isMade 12 = .ok (.invokevirtual 92, 3) := by decide +kernel
theorem dX11_isMade_15 : decode cX11_isMade 15 = .ok (.iconst 1, 1) := by decide +kernel
theorem dX11_isMade_16 : decode cX11_isMade 16 = .ok (.if_icmp .ne 16, 3) := by decide +kernel
theorem dX11_isMade_19 : decode cX11_isMade 19 = .ok (.aload_n 0, 1) := by decide +kernel
theorem dX11_isMade_20 : decode cX11_isMade 20 = .ok (.iload_n 1, 1) := by decide +kernel
theorem dX11_isMade_21 : decode cX11_isMade 21 = .ok (.iload_n 3, 1) := by decide +kernel
theorem dX11_isMade_22 : decode cX11_isMade 22 = .ok (.invokevirtual 166, 3) := by decide +kernel
theorem dX11_isMade_25 : decode cX11_isMade 25 = .ok (.lconst 0, 1) := by decide +kernel
theorem dX11_isMade_26 : decode cX11_isMade 26 = .ok (.lcmp, 1) := by decide +kernel
theorem dX11_isMade_27 : decode cX11_isMade 27 = .ok (.ifCond .eq 5, 3) := by decide +kernel
theorem dX11_isMade_30 : decode cX11_isMade 30 = .ok (.iconst 0, 1) := by decide +kernel
theorem dX11_isMade_31 : decode cX11_isMade 31 = .ok (.ireturn, 1) := by decide +kernel
theorem dX11_isMade_32 : decode cX11_isMade 32 = .ok (.iinc 3 1, 3) := by decide +kernel
theorem dX11_isMade_35 : decode cX11_isMade 35 = .ok (.goto (-33), 3) := by decide +kernel
theorem dX11_isMade_38 : decode cX11_isMade 38 = .ok (.aload_n 0, 1) := by decide +kernel
theorem dX11_isMade_39 : decode cX11_isMade 39 = .ok (.iconst 0, 1) := by decide +kernel
theorem dX11_isMade_40 : decode cX11_isMade 40 = .ok (.putfield 383, 3) := by decide +kernel
theorem dX11_isMade_43 : decode cX11_isMade 43 = .ok (.iconst 0, 1) := by decide +kernel
theorem dX11_isMade_44 : decode cX11_isMade 44 = .ok (.istore_n 3, 1) := by decide +kernel
theorem dX11_isMade_45 : decode cX11_isMade 45 = .ok (.iload_n 3, 1) := by decide +kernel
theorem dX11_isMade_46 : decode cX11_isMade 46 = .ok (.aload_n 0, 1) := by decide +kernel
theorem dX11_isMade_47 : decode cX11_isMade 47 = .ok (.invokevirtual 88, 3) := by decide +kernel
theorem dX11_isMade_50 : decode cX11_isMade 50 = .ok (.if_icmp .ge 36, 3) := by decide +kernel
theorem dX11_isMade_53 : decode cX11_isMade 53 = .ok (.iload_n 3, 1) := by decide +kernel
theorem dX11_isMade_54 : decode cX11_isMade 54 = .ok (.iconst 1, 1) := by decide +kernel
theorem dX11_isMade_55 : decode cX11_isMade 55 = .ok (.iadd, 1) := by decide +kernel
theorem dX11_isMade_56 : decode cX11_isMade 56 = .ok (.istore 4, 2) := by decide +kernel
theorem dX11_isMade_58 : decode cX11_isMade 58 = .ok (.iload 4, 2) := by decide +kernel
theorem dX11_isMade_60 : decode cX11_isMade 60 = .ok (.aload_n 0, 1) := by decide +kernel
theorem dX11_isMade_61 : decode cX11_isMade 61 = .ok (.invokevirtual 88, 3) := by decide +kernel
theorem dX11_isMade_64 : decode cX11_isMade 64 = .ok (.if_icmp .ge 16, 3) := by decide +kernel
theorem dX11_isMade_67 : decode cX11_isMade 67 = .ok (.aload_n 0, 1) := by decide +kernel
theorem dX11_isMade_68 : decode cX11_isMade 68 = .ok (.iload 4, 2) := by decide +kernel
theorem dX11_isMade_70 : decode cX11_isMade 70 = .ok (.iload_n 3, 1) := by decide +kernel
theorem dX11_isMade_71 : decode cX11_isMade 71 = .ok (.invokevirtual 386, 3) := by decide +kernel
theorem dX11_isMade_74 : decode cX11_isMade 74 = .ok (.iinc 4 1, 3) := by decide +kernel
theorem dX11_isMade_77 : decode cX11_isMade 77 = .ok (.goto (-19), 3) := by decide +kernel
theorem dX11_isMade_80 : decode cX11_isMade 80 = .ok (.iinc 3 1, 3) := by decide +kernel
theorem dX11_isMade_83 : decode cX11_isMade 83 = .ok (.goto (-38), 3) := by decide +kernel
theorem dX11_isMade_86 : decode cX11_isMade 86 = .ok (.iconst 0, 1) := by decide +kernel
theorem dX11_isMade_87 : decode cX11_isMade 87 = .ok (.istore_n 3, 1) := by decide +kernel
theorem dX11_isMade_88 : decode cX11_isMade 88 = .ok (.iload_n 3, 1) := by decide +kernel
theorem dX11_isMade_89 : decode cX11_isMade 89 = .ok (.bipush 18, 2) := by decide +kernel
theorem dX11_isMade_91 : decode cX11_isMade 91 = .ok (.if_icmp .ge 36, 3) := by decide +kernel
theorem dX11_isMade_94 : decode cX11_isMade 94 = .ok (.aload_n 0, 1) := by decide +kernel
theorem dX11_isMade_95 : decode cX11_isMade 95 = .ok (.getfield 64, 3) := by decide +kernel
theorem dX11_isMade_98 : decode cX11_isMade 98 = .ok (.iload_n 3, 1) := by decide +kernel
theorem dX11_isMade_99 : decode cX11_isMade 99 = .ok (.iload_n 3, 1) := by decide +kernel
theorem dX11_isMade_100 : decode cX11_isMade 100 = .ok (.aload_n 0, 1) := by decide +kernel
theorem dX11_isMade_101 : decode cX11_isMade 101 = .ok (.invokevirtual 88, 3) := by decide +kernel
theorem dX11_isMade_104 : decode cX11_isMade 104 = .ok (.if_icmp .ge 15, 3) := by decide +kernel
theorem dX11_isMade_107 : decode cX11_isMade 107 = .ok (.iload_n 2, 1) := by decide +kernel
theorem dX11_isMade_108 : decode cX11_isMade 108 = .ok (.i2l, 1) := by decide +kernel
theorem dX11_isMade_109 : decode cX11_isMade 109 = .ok (.aload_n 0, 1) := by decide +kernel
theorem dX11_isMade_110 : decode cX11_isMade 110 = .ok (.iload_n 1, 1) := by decide +kernel
theorem dX11_isMade_111 : decode cX11_isMade 111 = .ok (.iload_n 3, 1) := by decide +kernel
theorem dX11_isMade_112 : decode cX11_isMade 112 = .ok (.invokevirtual 166, 3) := by decide +kernel
theorem dX11_isMade_115 : decode cX11_isMade 115 = .ok (.lmul, 1) := by decide +kernel
theorem dX11_isMade_116 : decode cX11_isMade 116 = .ok (.goto 4, 3) := by decide +kernel
theorem dX11_isMade_119 : decode cX11_isMade 119 = .ok (.lconst 0, 1) := by decide +kernel
theorem dX11_isMade_120 : decode cX11_isMade 120 = .ok (.lastore, 1) := by decide +kernel
theorem dX11_isMade_121 : decode cX11_isMade 121 = .ok (.iinc 3 1, 3) := by decide +kernel
theorem dX11_isMade_124 : decode cX11_isMade 124 = .ok (.goto (-36), 3) := by decide +kernel
theorem dX11_isMade_127 : decode cX11_isMade 127 = .ok (.aload_n 0, 1) := by decide +kernel
theorem dX11_isMade_128 : decode cX11_isMade 128 = .ok (.invokevirtual 389, 3) := by decide +kernel
theorem dX11_isMade_131 : decode cX11_isMade 131 = .ok (.ireturn, 1) := by decide +kernel
theorem dX11_addsTail_0 : decode cX11_addsTail 0 = .ok (.iconst 0, 1) := by decide +kernel
theorem dX11_addsTail_1 : decode cX11_addsTail 1 = .ok (.istore_n 3, 1) := by decide +kernel
theorem dX11_addsTail_2 : decode cX11_addsTail 2 = .ok (.iload_n 3, 1) := by decide +kernel
theorem dX11_addsTail_3 : decode cX11_addsTail 3 = .ok (.bipush 18, 2) := by decide +kernel
theorem dX11_addsTail_5 : decode cX11_addsTail 5 = .ok (.if_icmp .ge 48, 3) := by decide +kernel
theorem dX11_addsTail_8 : decode cX11_addsTail 8 = .ok (.aload_n 0, 1) := by decide +kernel
theorem dX11_addsTail_9 : decode cX11_addsTail 9 = .ok (.getfield 61, 3) := by decide +kernel
theorem dX11_addsTail_12 : decode cX11_addsTail 12 = .ok (.bipush 18, 2) := by decide +kernel
theorem dX11_addsTail_14 : decode cX11_addsTail 14 = .ok (.aload_n 0, 1) := by decide +kernel
theorem dX11_addsTail_15 : decode cX11_addsTail 15 = .ok (.getfield 383, 3) := by decide +kernel
theorem dX11_addsTail_18 : decode cX11_addsTail 18 = .ok (.imul, 1) := by decide +kernel
theorem dX11_addsTail_19 : decode cX11_addsTail 19 = .ok (.iload_n 3, 1) := by decide +kernel
theorem dX11_addsTail_20 : decode cX11_addsTail 20 = .ok (.iadd, 1) := by decide +kernel
theorem dX11_addsTail_21 : decode cX11_addsTail 21 = .ok (.iload_n 3, 1) := by decide +kernel
theorem dX11_addsTail_22 : decode cX11_addsTail 22 = .ok (.iload_n 1, 1) := by decide +kernel
theorem dX11_addsTail_23 : decode cX11_addsTail 23 = .ok (.if_icmp .le 22, 3) := by decide +kernel
theorem dX11_addsTail_26 : decode cX11_addsTail 26 = .ok (.iload_n 3, 1) := by decide +kernel
theorem dX11_addsTail_27 : decode cX11_addsTail 27 = .ok (.aload_n 0, 1) := by decide +kernel
theorem dX11_addsTail_28 : decode cX11_addsTail 28 = .ok (.invokevirtual 88, 3) := by decide +kernel
theorem dX11_addsTail_31 : decode cX11_addsTail 31 = .ok (.if_icmp .ge 14, 3) := by decide +kernel
theorem dX11_addsTail_34 : decode cX11_addsTail 34 = .ok (.aload_n 0, 1) := by decide +kernel
theorem dX11_addsTail_35 : decode cX11_addsTail 35 = .ok (.iload_n 1, 1) := by decide +kernel
theorem dX11_addsTail_36 : decode cX11_addsTail 36 = .ok (.iload_n 2, 1) := by decide +kernel
theorem dX11_addsTail_37 : decode cX11_addsTail 37 = .ok (.iload_n 3, 1) := by decide +kernel
theorem dX11_addsTail_38 : decode cX11_addsTail 38 = .ok (.invokevirtual 130, 3) := by decide +kernel
theorem dX11_addsTail_41 : decode cX11_addsTail 41 = .ok (.i2l, 1) := by decide +kernel
theorem dX11_addsTail_42 : decode cX11_addsTail 42 = .ok (.goto 4, 3) := by decide +kernel
theorem dX11_addsTail_45 : decode cX11_addsTail 45 = .ok (.lconst 0, 1) := by decide +kernel
theorem dX11_addsTail_46 : decode cX11_addsTail 46 = .ok (.lastore, 1) := by decide +kernel
theorem dX11_addsTail_47 : decode cX11_addsTail 47 = .ok (.iinc 3 1, 3) := by decide +kernel
theorem dX11_addsTail_50 : decode cX11_addsTail 50 = .ok (.goto (-48), 3) := by decide +kernel
theorem dX11_addsTail_53 : decode cX11_addsTail 53 = .ok (.aload_n 0, 1) := by decide +kernel
theorem dX11_addsTail_54 : decode cX11_addsTail 54 = .ok (.aload_n 0, 1) := by decide +kernel
theorem dX11_addsTail_55 : decode cX11_addsTail 55 = .ok (.getfield 383, 3) := by decide +kernel
theorem dX11_addsTail_58 : decode cX11_addsTail 58 = .ok (.iconst 1, 1) := by decide +kernel
theorem dX11_addsTail_59 : decode cX11_addsTail 59 = .ok (.iadd, 1) := by decide +kernel
theorem dX11_addsTail_60 : decode cX11_addsTail 60 = .ok (.putfield 383, 3) := by decide +kernel
theorem dX11_addsTail_63 : decode cX11_addsTail 63 = .ok (.return_, 1) := by decide +kernel
theorem dX11_leastMade_0 : decode cX11_leastMade 0 = .ok (.iconst 1, 1) := by decide +kernel
theorem dX11_leastMade_1 : decode cX11_leastMade 1 = .ok (.istore_n 2, 1) := by decide +kernel
theorem dX11_leastMade_2 : decode cX11_leastMade 2 = .ok (.iload_n 2, 1) := by decide +kernel
theorem dX11_leastMade_3 : decode cX11_leastMade 3 = .ok (.bipush 100, 2) := by decide +kernel
theorem dX11_leastMade_5 : decode cX11_leastMade 5 = .ok (.if_icmp .ge 20, 3) := by decide +kernel
theorem dX11_leastMade_8 : decode cX11_leastMade 8 = .ok (.aload_n 0, 1) := by decide +kernel
theorem dX11_leastMade_9 : decode cX11_leastMade 9 = .ok (.iload_n 1, 1) := by decide +kernel
theorem dX11_leastMade_10 : decode cX11_leastMade 10 = .ok (.iload_n 2, 1) := by decide +kernel
theorem dX11_leastMade_11 : decode cX11_leastMade 11 = .ok (.invokevirtual 392, 3) := by decide +kernel
theorem dX11_leastMade_14 : decode cX11_leastMade 14 = .ok (.ifCond .eq 5, 3) := by decide +kernel
theorem dX11_leastMade_17 : decode cX11_leastMade 17 = .ok (.iload_n 2, 1) := by decide +kernel
theorem dX11_leastMade_18 : decode cX11_leastMade 18 = .ok (.ireturn, 1) := by decide +kernel
theorem dX11_leastMade_19 : decode cX11_leastMade 19 = .ok (.iinc 2 1, 3) := by decide +kernel
theorem dX11_leastMade_22 : decode cX11_leastMade 22 = .ok (.goto (-20), 3) := by decide +kernel
theorem dX11_leastMade_25 : decode cX11_leastMade 25 = .ok (.iconst 0, 1) := by decide +kernel
theorem dX11_leastMade_26 : decode cX11_leastMade 26 = .ok (.ireturn, 1) := by decide +kernel
theorem dX11_register_0 : decode cX11_register 0 = .ok (.aload_n 0, 1) := by decide +kernel
theorem dX11_register_1 : decode cX11_register 1 = .ok (.iconst 0, 1) := by decide +kernel
theorem dX11_register_2 : decode cX11_register 2 = .ok (.putfield 1, 3) := by decide +kernel
theorem dX11_register_5 : decode cX11_register 5 = .ok (.aload_n 0, 1) := by decide +kernel
theorem dX11_register_6 : decode cX11_register 6 = .ok (.iload_n 1, 1) := by decide +kernel
theorem dX11_register_7 : decode cX11_register 7 = .ok (.invokevirtual 232, 3) := by decide +kernel
theorem dX11_register_10 : decode cX11_register 10 = .ok (.ifCond .eq 23, 3) := by decide +kernel
theorem dX11_register_13 : decode cX11_register 13 = .ok (.aload_n 0, 1) := by decide +kernel
theorem dX11_register_14 : decode cX11_register 14 = .ok (.invokevirtual 235, 3) := by decide +kernel
theorem dX11_register_17 : decode cX11_register 17 = .ok (.ifCond .eq 16, 3) := by decide +kernel
theorem dX11_register_20 : decode cX11_register 20 = .ok (.aload_n 0, 1) := by decide +kernel
theorem dX11_register_21 : decode cX11_register 21 = .ok (.iload_n 2, 1) := by decide +kernel
theorem dX11_register_22 : decode cX11_register 22 = .ok (.i2l, 1) := by decide +kernel
theorem dX11_register_23 : decode cX11_register 23 = .ok (.lconst 0, 1) := by decide +kernel
theorem dX11_register_24 : decode cX11_register 24 = .ok (.ldc2_w 395, 3) := by decide +kernel
theorem dX11_register_27 : decode cX11_register 27 = .ok (.invokevirtual 101, 3) := by decide +kernel
theorem dX11_register_30 : decode cX11_register 30 = .ok (.ifCond .ne 5, 3) := by decide +kernel
theorem dX11_register_33 : decode cX11_register 33 = .ok (.iconst (-1), 1) := by decide +kernel
theorem dX11_register_34 : decode cX11_register 34 = .ok (.ireturn, 1) := by decide +kernel
theorem dX11_register_35 : decode cX11_register 35 = .ok (.aload_n 0, 1) := by decide +kernel
theorem dX11_register_36 : decode cX11_register 36 = .ok (.iconst 0, 1) := by decide +kernel
theorem dX11_register_37 : decode cX11_register 37 = .ok (.iload_n 1, 1) := by decide +kernel
theorem dX11_register_38 : decode cX11_register 38 = .ok (.invokevirtual 241, 3) := by decide +kernel
theorem dX11_register_41 : decode cX11_register 41 = .ok (.iload_n 2, 1) := by decide +kernel
theorem dX11_register_42 : decode cX11_register 42 = .ok (.ifCond .ne 9, 3) := by decide +kernel
theorem dX11_register_45 : decode cX11_register 45 = .ok (.aload_n 0, 1) := by decide +kernel
theorem dX11_register_46 : decode cX11_register 46 = .ok (.iconst 0, 1) := by decide +kernel
theorem dX11_register_47 : decode cX11_register 47 = .ok (.invokevirtual 397, 3) := by decide +kernel
theorem dX11_register_50 : decode cX11_register 50 = .ok (.ireturn, 1) := by decide +kernel
theorem dX11_register_51 : decode cX11_register 51 = .ok (.iload_n 2, 1) := by decide +kernel
theorem dX11_register_52 : decode cX11_register 52 = .ok (.iconst 1, 1) := by decide +kernel
theorem dX11_register_53 : decode cX11_register 53 = .ok (.if_icmp .ne 18, 3) := by decide +kernel
theorem dX11_register_56 : decode cX11_register 56 = .ok (.aload_n 0, 1) := by decide +kernel
theorem dX11_register_57 : decode cX11_register 57 = .ok (.iconst 0, 1) := by decide +kernel
theorem dX11_register_58 : decode cX11_register 58 = .ok (.iconst 1, 1) := by decide +kernel
theorem dX11_register_59 : decode cX11_register 59 = .ok (.invokevirtual 343, 3) := by decide +kernel
theorem dX11_register_62 : decode cX11_register 62 = .ok (.ifCond .eq 7, 3) := by decide +kernel
theorem dX11_register_65 : decode cX11_register 65 = .ok (.iconst 1, 1) := by decide +kernel
theorem dX11_register_66 : decode cX11_register 66 = .ok (.goto 4, 3) := by decide +kernel
theorem dX11_register_69 : decode cX11_register 69 = .ok (.iconst 0, 1) := by decide +kernel
theorem dX11_register_70 : decode cX11_register 70 = .ok (.ireturn, 1) := by decide +kernel
theorem dX11_register_71 : decode cX11_register 71 = .ok (.iload_n 2, 1) := by decide +kernel
theorem dX11_register_72 : decode cX11_register 72 = .ok (.iconst 2, 1) := by decide +kernel
theorem dX11_register_73 : decode cX11_register 73 = .ok (.if_icmp .ne 17, 3) := by decide +kernel
theorem dX11_register_76 : decode cX11_register 76 = .ok (.aload_n 0, 1) := by decide +kernel
theorem dX11_register_77 : decode cX11_register 77 = .ok (.iconst 0, 1) := by decide +kernel
theorem dX11_register_78 : decode cX11_register 78 = .ok (.invokevirtual 337, 3) := by decide +kernel
theorem dX11_register_81 : decode cX11_register 81 = .ok (.ifCond .eq 7, 3) := by decide +kernel
theorem dX11_register_84 : decode cX11_register 84 = .ok (.iconst 1, 1) := by decide +kernel
theorem dX11_register_85 : decode cX11_register 85 = .ok (.goto 4, 3) := by decide +kernel
theorem dX11_register_88 : decode cX11_register 88 = .ok (.iconst 0, 1) := by decide +kernel
theorem dX11_register_89 : decode cX11_register 89 = .ok (.ireturn, 1) := by decide +kernel
theorem dX11_register_90 : decode cX11_register 90 = .ok (.iload_n 2, 1) := by decide +kernel
theorem dX11_register_91 : decode cX11_register 91 = .ok (.iconst 3, 1) := by decide +kernel
theorem dX11_register_92 : decode cX11_register 92 = .ok (.if_icmp .ne 9, 3) := by decide +kernel
theorem dX11_register_95 : decode cX11_register 95 = .ok (.aload_n 0, 1) := by decide +kernel
theorem dX11_register_96 : decode cX11_register 96 = .ok (.iconst 0, 1) := by decide +kernel
theorem dX11_register_97 : decode cX11_register 97 = .ok (.invokevirtual 400, 3) := by decide +kernel
theorem dX11_register_100 : decode cX11_register 100 = .ok (.ireturn, 1) := by decide +kernel
theorem dX11_register_101 : decode cX11_register 101 = .ok (.iload_n 2, 1) := by decide +kernel
theorem dX11_register_102 : decode cX11_register 102 = .ok (.bipush 6, 2) := by decide +kernel
theorem dX11_register_104 : decode cX11_register 104 = .ok (.if_icmp .ne 18, 3) := by decide +kernel
theorem dX11_register_107 : decode cX11_register 107 = .ok (.aload_n 0, 1) := by decide +kernel
theorem dX11_register_108 : decode cX11_register 108 = .ok (.iconst 0, 1) := by decide +kernel
theorem dX11_register_109 : decode cX11_register 109 = .ok (.iconst 1, 1) := by decide +kernel
theorem dX11_register_110 : decode cX11_register 110 = .ok (.invokevirtual 392, 3) := by decide +kernel
theorem dX11_register_113 : decode cX11_register 113 = .ok (.ifCond .eq 7, 3) := by decide +kernel
theorem dX11_register_116 : decode cX11_register 116 = .ok (.iconst 1, 1) := by decide +kernel
theorem dX11_register_117 : decode cX11_register 117 = .ok (.goto 4, 3) := by decide +kernel
theorem dX11_register_120 : decode cX11_register 120 = .ok (.iconst 0, 1) := by decide +kernel
theorem dX11_register_121 : decode cX11_register 121 = .ok (.ireturn, 1) := by decide +kernel
theorem dX11_register_122 : decode cX11_register 122 = .ok (.iload_n 2, 1) := by decide +kernel
theorem dX11_register_123 : decode cX11_register 123 = .ok (.bipush 7, 2) := by decide +kernel
theorem dX11_register_125 : decode cX11_register 125 = .ok (.if_icmp .ne 9, 3) := by decide +kernel
theorem dX11_register_128 : decode cX11_register 128 = .ok (.aload_n 0, 1) := by decide +kernel
theorem dX11_register_129 : decode cX11_register 129 = .ok (.iconst 0, 1) := by decide +kernel
theorem dX11_register_130 : decode cX11_register 130 = .ok (.invokevirtual 403, 3) := by decide +kernel
theorem dX11_register_133 : decode cX11_register 133 = .ok (.ireturn, 1) := by decide +kernel
theorem dX11_register_134 : decode cX11_register 134 = .ok (.iload_n 2, 1) := by decide +kernel
theorem dX11_register_135 : decode cX11_register 135 = .ok (.iconst 4, 1) := by decide +kernel
theorem dX11_register_136 : decode cX11_register 136 = .ok (.if_icmp .ne 11, 3) := by decide +kernel
theorem dX11_register_139 : decode cX11_register 139 = .ok (.aload_n 0, 1) := by decide +kernel
theorem dX11_register_140 : decode cX11_register 140 = .ok (.iconst 0, 1) := by decide +kernel
theorem dX11_register_141 : decode cX11_register 141 = .ok (.invokevirtual 406, 3) := by decide +kernel
theorem dX11_register_144 : decode cX11_register 144 = .ok (.goto 8, 3) := by decide +kernel
theorem dX11_register_147 : decode cX11_register 147 = .ok (.aload_n 0, 1) := by decide +kernel
theorem dX11_register_148 : decode cX11_register 148 = .ok (.iload_n 1, 1) := by decide +kernel
theorem dX11_register_149 : decode cX11_register 149 = .ok (.invokevirtual 409, 3) := by decide +kernel
theorem dX11_register_152 : decode cX11_register 152 = .ok (.ireturn, 1) := by decide +kernel
theorem dX11_firstApart_0 : decode cX11_firstApart 0 = .ok (.iconst 0, 1) := by decide +kernel
theorem dX11_firstApart_1 : decode cX11_firstApart 1 = .ok (.istore_n 1, 1) := by decide +kernel
theorem dX11_firstApart_2 : decode cX11_firstApart 2 = .ok (.iload_n 1, 1) := by decide +kernel
theorem dX11_firstApart_3 : decode cX11_firstApart 3 = .ok (.aload_n 0, 1) := by decide +kernel
theorem dX11_firstApart_4 : decode cX11_firstApart 4 = .ok (.invokevirtual 88, 3) := by decide +kernel
theorem dX11_firstApart_7 : decode cX11_firstApart 7 = .ok (.if_icmp .ge 29, 3) := by decide +kernel
theorem dX11_firstApart_10 : decode cX11_firstApart 10 = .ok (.aload_n 0, 1) := by decide +kernel
theorem dX11_firstApart_11 : decode cX11_firstApart 11 = .ok (.iconst 0, 1) := by decide +kernel
theorem dX11_firstApart_12 : decode cX11_firstApart 12 = .ok (.iload_n 1, 1) := by decide +kernel
theorem dX11_firstApart_13 : decode cX11_firstApart 13 = .ok (.invokevirtual 166, 3) := by decide +kernel
theorem dX11_firstApart_16 : decode cX11_firstApart 16 = .ok (.aload_n 0, 1) := by decide +kernel
theorem dX11_firstApart_17 : decode cX11_firstApart 17 = .ok (.iconst 1, 1) := by decide +kernel
theorem dX11_firstApart_18 : decode cX11_firstApart 18 = .ok (.iload_n 1, 1) := by decide +kernel
theorem dX11_firstApart_19 : decode cX11_firstApart 19 = .ok (.invokevirtual 166, 3) := by decide +kernel
theorem dX11_firstApart_22 : decode cX11_firstApart 22 = .ok (.lcmp, 1) := by decide +kernel
theorem dX11_firstApart_23 : decode cX11_firstApart 23 = .ok (.ifCond .eq 7, 3) := by decide +kernel
theorem dX11_firstApart_26 : decode cX11_firstApart 26 = .ok (.iload_n 1, 1) := by decide +kernel
theorem dX11_firstApart_27 : decode cX11_firstApart 27 = .ok (.iconst 1, 1) := by decide +kernel
theorem dX11_firstApart_28 : decode cX11_firstApart 28 = .ok (.iadd, 1) := by decide +kernel
theorem dX11_firstApart_29 : decode cX11_firstApart 29 = .ok (.ireturn, 1) := by decide +kernel
theorem dX11_firstApart_30 : decode cX11_firstApart 30 = .ok (.iinc 1 1, 3) := by decide +kernel
theorem dX11_firstApart_33 : decode cX11_firstApart 33 = .ok (.goto (-31), 3) := by decide +kernel
theorem dX11_firstApart_36 : decode cX11_firstApart 36 = .ok (.iconst 0, 1) := by decide +kernel
theorem dX11_firstApart_37 : decode cX11_firstApart 37 = .ok (.ireturn, 1) := by decide +kernel
theorem dX11_both_0 : decode cX11_both 0 = .ok (.aload_n 0, 1) := by decide +kernel
theorem dX11_both_1 : decode cX11_both 1 = .ok (.iconst 0, 1) := by decide +kernel
theorem dX11_both_2 : decode cX11_both 2 = .ok (.putfield 1, 3) := by decide +kernel
theorem dX11_both_5 : decode cX11_both 5 = .ok (.aload_n 0, 1) := by decide +kernel
theorem dX11_both_6 : decode cX11_both 6 = .ok (.iload_n 1, 1) := by decide +kernel
theorem dX11_both_7 : decode cX11_both 7 = .ok (.invokevirtual 232, 3) := by decide +kernel
theorem dX11_both_10 : decode cX11_both 10 = .ok (.ifCond .eq 31, 3) := by decide +kernel
theorem dX11_both_13 : decode cX11_both 13 = .ok (.aload_n 0, 1) := by decide +kernel
theorem dX11_both_14 : decode cX11_both 14 = .ok (.iload_n 2, 1) := by decide +kernel
theorem dX11_both_15 : decode cX11_both 15 = .ok (.invokevirtual 232, 3) := by decide +kernel
theorem dX11_both_18 : decode cX11_both 18 = .ok (.ifCond .eq 23, 3) := by decide +kernel
theorem dX11_both_21 : decode cX11_both 21 = .ok (.aload_n 0, 1) := by decide +kernel
theorem dX11_both_22 : decode cX11_both 22 = .ok (.invokevirtual 235, 3) := by decide +kernel
theorem dX11_both_25 : decode cX11_both 25 = .ok (.ifCond .eq 16, 3) := by decide +kernel
theorem dX11_both_28 : decode cX11_both 28 = .ok (.aload_n 0, 1) := by decide +kernel
theorem dX11_both_29 : decode cX11_both 29 = .ok (.iload_n 3, 1) := by decide +kernel
theorem dX11_both_30 : decode cX11_both 30 = .ok (.i2l, 1) := by decide +kernel
theorem dX11_both_31 : decode cX11_both 31 = .ok (.lconst 0, 1) := by decide +kernel
theorem dX11_both_32 : decode cX11_both 32 = .ok (.ldc2_w 174, 3) := by decide +kernel
theorem dX11_both_35 : decode cX11_both 35 = .ok (.invokevirtual 101, 3) := by decide +kernel
theorem dX11_both_38 : decode cX11_both 38 = .ok (.ifCond .ne 5, 3) := by decide +kernel
theorem dX11_both_41 : decode cX11_both 41 = .ok (.iconst (-1), 1) := by decide +kernel
theorem dX11_both_42 : decode cX11_both 42 = .ok (.ireturn, 1) := by decide +kernel
theorem dX11_both_43 : decode cX11_both 43 = .ok (.aload_n 0, 1) := by decide +kernel
theorem dX11_both_44 : decode cX11_both 44 = .ok (.iconst 0, 1) := by decide +kernel
theorem dX11_both_45 : decode cX11_both 45 = .ok (.iload_n 1, 1) := by decide +kernel
theorem dX11_both_46 : decode cX11_both 46 = .ok (.invokevirtual 241, 3) := by decide +kernel
theorem dX11_both_49 : decode cX11_both 49 = .ok (.aload_n 0, 1) := by decide +kernel
theorem dX11_both_50 : decode cX11_both 50 = .ok (.iconst 1, 1) := by decide +kernel
theorem dX11_both_51 : decode cX11_both 51 = .ok (.iload_n 2, 1) := by decide +kernel
theorem dX11_both_52 : decode cX11_both 52 = .ok (.invokevirtual 241, 3) := by decide +kernel
theorem dX11_both_55 : decode cX11_both 55 = .ok (.iload_n 3, 1) := by decide +kernel
theorem dX11_both_56 : decode cX11_both 56 = .ok (.iconst 2, 1) := by decide +kernel
theorem dX11_both_57 : decode cX11_both 57 = .ok (.if_icmp .ne 8, 3) := by decide +kernel
theorem dX11_both_60 : decode cX11_both 60 = .ok (.aload_n 0, 1) := by decide +kernel
theorem dX11_both_61 : decode cX11_both 61 = .ok (.invokevirtual 412, 3) := by decide +kernel
theorem dX11_both_64 : decode cX11_both 64 = .ok (.ireturn, 1) := by decide +kernel
theorem dX11_both_65 : decode cX11_both 65 = .ok (.aload_n 0, 1) := by decide +kernel
theorem dX11_both_66 : decode cX11_both 66 = .ok (.iconst 0, 1) := by decide +kernel
theorem dX11_both_67 : decode cX11_both 67 = .ok (.iconst 1, 1) := by decide +kernel
theorem dX11_both_68 : decode cX11_both 68 = .ok (.iconst 2, 1) := by decide +kernel
theorem dX11_both_69 : decode cX11_both 69 = .ok (.invokevirtual 254, 3) := by decide +kernel
theorem dX11_both_72 : decode cX11_both 72 = .ok (.iload_n 3, 1) := by decide +kernel
theorem dX11_both_73 : decode cX11_both 73 = .ok (.iconst 1, 1) := by decide +kernel
theorem dX11_both_74 : decode cX11_both 74 = .ok (.if_icmp .ne 11, 3) := by decide +kernel
theorem dX11_both_77 : decode cX11_both 77 = .ok (.aload_n 0, 1) := by decide +kernel
theorem dX11_both_78 : decode cX11_both 78 = .ok (.iconst 2, 1) := by decide +kernel
theorem dX11_both_79 : decode cX11_both 79 = .ok (.invokevirtual 397, 3) := by decide +kernel
theorem dX11_both_82 : decode cX11_both 82 = .ok (.goto 16, 3) := by decide +kernel
theorem dX11_both_85 : decode cX11_both 85 = .ok (.aload_n 0, 1) := by decide +kernel
theorem dX11_both_86 : decode cX11_both 86 = .ok (.iconst 2, 1) := by decide +kernel
theorem dX11_both_87 : decode cX11_both 87 = .ok (.invokevirtual 337, 3) := by decide +kernel
theorem dX11_both_90 : decode cX11_both 90 = .ok (.ifCond .eq 7, 3) := by decide +kernel
theorem dX11_both_93 : decode cX11_both 93 = .ok (.iconst 1, 1) := by decide +kernel
theorem dX11_both_94 : decode cX11_both 94 = .ok (.goto 4, 3) := by decide +kernel
theorem dX11_both_97 : decode cX11_both 97 = .ok (.iconst 0, 1) := by decide +kernel
theorem dX11_both_98 : decode cX11_both 98 = .ok (.ireturn, 1) := by decide +kernel
theorem dX11_ofColumn_0 : decode cX11_ofColumn 0 = .ok (.aload_n 0, 1) := by decide +kernel
theorem dX11_ofColumn_1 : decode cX11_ofColumn 1 = .ok (.getfield 61, 3) := by decide +kernel
theorem dX11_ofColumn_4 : decode cX11_ofColumn 4 = .ok (.bipush 18, 2) := by decide +kernel
theorem dX11_ofColumn_6 : decode cX11_ofColumn 6 = .ok (.iload_n 1, 1) := by decide +kernel
theorem dX11_ofColumn_7 : decode cX11_ofColumn 7 = .ok (.imul, 1) := by decide +kernel
theorem dX11_ofColumn_8 : decode cX11_ofColumn 8 = .ok (.iload_n 2, 1) := by decide +kernel
theorem dX11_ofColumn_9 : decode cX11_ofColumn 9 = .ok (.iadd, 1) := by decide +kernel
theorem dX11_ofColumn_10 : decode cX11_ofColumn 10 = .ok (.laload, 1) := by decide +kernel
theorem dX11_ofColumn_11 : decode cX11_ofColumn 11 = .ok (.lreturn, 1) := by decide +kernel
theorem dX11_lessens_0 : decode cX11_lessens 0 = .ok (.iconst 0, 1) := by decide +kernel
theorem dX11_lessens_1 : decode cX11_lessens 1 = .ok (.istore 5, 2) := by decide +kernel
theorem dX11_lessens_3 : decode cX11_lessens 3 = .ok (.iload 5, 2) := by decide +kernel
theorem dX11_lessens_5 : decode cX11_lessens 5 = .ok (.bipush 18, 2) := by decide +kernel
theorem dX11_lessens_7 : decode cX11_lessens 7 = .ok (.if_icmp .ge 48, 3) := by decide +kernel
theorem dX11_lessens_10 : decode cX11_lessens 10 = .ok (.aload_n 0, 1) := by decide +kernel
theorem dX11_lessens_11 : decode cX11_lessens 11 = .ok (.getfield 61, 3) := by decide +kernel
theorem dX11_lessens_14 : decode cX11_lessens 14 = .ok (.bipush 18, 2) := by decide +kernel
theorem dX11_lessens_16 : decode cX11_lessens 16 = .ok (.iload_n 1, 1) := by decide +kernel
theorem dX11_lessens_17 : decode cX11_lessens 17 = .ok (.imul, 1) := by decide +kernel
theorem dX11_lessens_18 : decode cX11_lessens 18 = .ok (.iload 5, 2) := by decide +kernel
theorem dX11_lessens_20 : decode cX11_lessens 20 = .ok (.iadd, 1) := by decide +kernel
theorem dX11_lessens_21 : decode cX11_lessens 21 = .ok (.aload_n 0, 1) := by decide +kernel
theorem dX11_lessens_22 : decode cX11_lessens 22 = .ok (.getfield 61, 3) := by decide +kernel
theorem dX11_lessens_25 : decode cX11_lessens 25 = .ok (.bipush 18, 2) := by decide +kernel
theorem dX11_lessens_27 : decode cX11_lessens 27 = .ok (.iload_n 1, 1) := by decide +kernel
theorem dX11_lessens_28 : decode cX11_lessens 28 = .ok (.imul, 1) := by decide +kernel
theorem dX11_lessens_29 : decode cX11_lessens 29 = .ok (.iload 5, 2) := by decide +kernel
theorem dX11_lessens_31 : decode cX11_lessens 31 = .ok (.iadd, 1) := by decide +kernel
theorem dX11_lessens_32 : decode cX11_lessens 32 = .ok (.laload, 1) := by decide +kernel
theorem dX11_lessens_33 : decode cX11_lessens 33 = .ok (.lload_n 3, 1) := by decide +kernel
theorem dX11_lessens_34 : decode cX11_lessens 34 = .ok (.aload_n 0, 1) := by decide +kernel
theorem dX11_lessens_35 : decode cX11_lessens 35 = .ok (.getfield 61, 3) := by decide +kernel
theorem dX11_lessens_38 : decode cX11_lessens 38 = .ok (.bipush 18, 2) := by decide +kernel
theorem dX11_lessens_40 : decode cX11_lessens 40 = .ok (.iload_n 2, 1) := by decide +kernel
theorem dX11_lessens_41 : decode cX11_lessens 41 = .ok (.imul, 1) := by decide +kernel
theorem dX11_lessens_42 : decode cX11_lessens 42 = .ok (.iload 5, 2) := by decide +kernel
theorem dX11_lessens_44 : decode cX11_lessens 44 = .ok (.iadd, 1) := by decide +kernel
theorem dX11_lessens_45 : decode cX11_lessens 45 = .ok (.laload, 1) := by decide +kernel
theorem dX11_lessens_46 : decode cX11_lessens 46 = .ok (.lmul, 1) := by decide +kernel
theorem dX11_lessens_47 : decode cX11_lessens 47 = .ok (.lsub, 1) := by decide +kernel
theorem dX11_lessens_48 : decode cX11_lessens 48 = .ok (.lastore, 1) := by decide +kernel
theorem dX11_lessens_49 : decode cX11_lessens 49 = .ok (.iinc 5 1, 3) := by decide +kernel
theorem dX11_lessens_52 : decode cX11_lessens 52 = .ok (.goto (-49), 3) := by decide +kernel
theorem dX11_lessens_55 : decode cX11_lessens 55 = .ok (.return_, 1) := by decide +kernel
theorem dX11_changes_0 : decode cX11_changes 0 = .ok (.iconst 0, 1) := by decide +kernel
theorem dX11_changes_1 : decode cX11_changes 1 = .ok (.istore_n 3, 1) := by decide +kernel
theorem dX11_changes_2 : decode cX11_changes 2 = .ok (.iload_n 3, 1) := by decide +kernel
theorem dX11_changes_3 : decode cX11_changes 3 = .ok (.bipush 18, 2) := by decide +kernel
theorem dX11_changes_5 : decode cX11_changes 5 = .ok (.if_icmp .ge 57, 3) := by decide +kernel
theorem dX11_changes_8 : decode cX11_changes 8 = .ok (.aload_n 0, 1) := by decide +kernel
theorem dX11_changes_9 : decode cX11_changes 9 = .ok (.getfield 61, 3) := by decide +kernel
theorem dX11_changes_12 : decode cX11_changes 12 = .ok (.bipush 18, 2) := by decide +kernel
theorem dX11_changes_14 : decode cX11_changes 14 = .ok (.iload_n 1, 1) := by decide +kernel
theorem dX11_changes_15 : decode cX11_changes 15 = .ok (.imul, 1) := by decide +kernel
theorem dX11_changes_16 : decode cX11_changes 16 = .ok (.iload_n 3, 1) := by decide +kernel
theorem dX11_changes_17 : decode cX11_changes 17 = .ok (.iadd, 1) := by decide +kernel
theorem dX11_changes_18 : decode cX11_changes 18 = .ok (.laload, 1) := by decide +kernel
theorem dX11_changes_19 : decode cX11_changes 19 = .ok (.lstore 4, 2) := by decide +kernel
theorem dX11_changes_21 : decode cX11_changes 21 = .ok (.aload_n 0, 1) := by decide +kernel
theorem dX11_changes_22 : decode cX11_changes 22 = .ok (.getfield 61, 3) := by decide +kernel
theorem dX11_changes_25 : decode cX11_changes 25 = .ok (.bipush 18, 2) := by decide +kernel
theorem dX11_changes_27 : decode cX11_changes 27 = .ok (.iload_n 1, 1) := by decide +kernel
theorem dX11_changes_28 : decode cX11_changes 28 = .ok (.imul, 1) := by decide +kernel
theorem dX11_changes_29 : decode cX11_changes 29 = .ok (.iload_n 3, 1) := by decide +kernel
theorem dX11_changes_30 : decode cX11_changes 30 = .ok (.iadd, 1) := by decide +kernel
theorem dX11_changes_31 : decode cX11_changes 31 = .ok (.aload_n 0, 1) := by decide +kernel
theorem dX11_changes_32 : decode cX11_changes 32 = .ok (.getfield 61, 3) := by decide +kernel
theorem dX11_changes_35 : decode cX11_changes 35 = .ok (.bipush 18, 2) := by decide +kernel
theorem dX11_changes_37 : decode cX11_changes 37 = .ok (.iload_n 2, 1) := by decide +kernel
theorem dX11_changes_38 : decode cX11_changes 38 = .ok (.imul, 1) := by decide +kernel
theorem dX11_changes_39 : decode cX11_changes 39 = .ok (.iload_n 3, 1) := by decide +kernel
theorem dX11_changes_40 : decode cX11_changes 40 = .ok (.iadd, 1) := by decide +kernel
theorem dX11_changes_41 : decode cX11_changes 41 = .ok (.laload, 1) := by decide +kernel
theorem dX11_changes_42 : decode cX11_changes 42 = .ok (.lastore, 1) := by decide +kernel
theorem dX11_changes_43 : decode cX11_changes 43 = .ok (.aload_n 0, 1) := by decide +kernel
theorem dX11_changes_44 : decode cX11_changes 44 = .ok (.getfield 61, 3) := by decide +kernel
theorem dX11_changes_47 : decode cX11_changes 47 = .ok (.bipush 18, 2) := by decide +kernel
theorem dX11_changes_49 : decode cX11_changes 49 = .ok (.iload_n 2, 1) := by decide +kernel
theorem dX11_changes_50 : decode cX11_changes 50 = .ok (.imul, 1) := by decide +kernel
theorem dX11_changes_51 : decode cX11_changes 51 = .ok (.iload_n 3, 1) := by decide +kernel
theorem dX11_changes_52 : decode cX11_changes 52 = .ok (.iadd, 1) := by decide +kernel
theorem dX11_changes_53 : decode cX11_changes 53 = .ok (.lload 4, 2) := by decide +kernel
theorem dX11_changes_55 : decode cX11_changes 55 = .ok (.lastore, 1) := by decide +kernel
theorem dX11_changes_56 : decode cX11_changes 56 = .ok (.iinc 3 1, 3) := by decide +kernel
theorem dX11_changes_59 : decode cX11_changes 59 = .ok (.goto (-57), 3) := by decide +kernel
theorem dX11_changes_62 : decode cX11_changes 62 = .ok (.return_, 1) := by decide +kernel
theorem dX11_clearsAt_0 : decode cX11_clearsAt 0 = .ok (.iload_n 1, 1) := by decide +kernel
theorem dX11_clearsAt_1 : decode cX11_clearsAt 1 = .ok (.istore_n 3, 1) := by decide +kernel
theorem dX11_clearsAt_2 : decode cX11_clearsAt 2 = .ok (.iload_n 3, 1) := by decide +kernel
theorem dX11_clearsAt_3 : decode cX11_clearsAt 3 = .ok (.iconst (-1), 1) := by decide +kernel
theorem dX11_clearsAt_4 : decode cX11_clearsAt 4 = .ok (.if_icmp .eq 172, 3) := by decide +kernel
theorem dX11_clearsAt_7 : decode cX11_clearsAt 7 = .ok (.iconst (-1), 1) := by decide +kernel
theorem dX11_clearsAt_8 : decode cX11_clearsAt 8 = .ok (.istore_n 3, 1) := by decide +kernel
theorem dX11_clearsAt_9 : decode cX11_clearsAt 9 = .ok (.iload_n 1, 1) := by decide +kernel
theorem dX11_clearsAt_10 : decode cX11_clearsAt 10 = .ok (.istore 4, 2) := by decide +kernel
theorem dX11_clearsAt_12 : decode cX11_clearsAt 12 = .ok (.iload 4, 2) := by decide +kernel
theorem dX11_clearsAt_14 : decode cX11_clearsAt 14 = .ok (.aload_n 0, 1) := by decide +kernel
theorem dX11_clearsAt_15 : decode cX11_clearsAt 15 = .ok (.getfield 383, 3) := by decide +kernel
theorem dX11_clearsAt_18 : decode cX11_clearsAt 18 = .ok (.if_icmp .ge 52, 3) := by decide +kernel
theorem dX11_clearsAt_21 : decode cX11_clearsAt 21 = .ok (.aload_n 0, 1) := by decide +kernel
theorem dX11_clearsAt_22 : decode cX11_clearsAt 22 = .ok (.iload 4, 2) := by decide +kernel
theorem dX11_clearsAt_24 : decode cX11_clearsAt 24 = .ok (.iload_n 2, 1) := by decide +kernel
theorem dX11_clearsAt_25 : decode cX11_clearsAt 25 = .ok (.invokevirtual 415, 3) := by decide +kernel
theorem dX11_clearsAt_28 : decode cX11_clearsAt 28 = .ok (.lconst 0, 1) := by decide +kernel
theorem dX11_clearsAt_29 : decode cX11_clearsAt 29 = .ok (.lcmp, 1) := by decide +kernel
theorem dX11_clearsAt_30 : decode cX11_clearsAt 30 = .ok (.ifCond .eq 34, 3) := by decide +kernel
theorem dX11_clearsAt_33 : decode cX11_clearsAt 33 = .ok (.iload_n 3, 1) := by decide +kernel
theorem dX11_clearsAt_34 : decode cX11_clearsAt 34 = .ok (.iconst (-1), 1) := by decide +kernel
theorem dX11_clearsAt_35 : decode cX11_clearsAt 35 = .ok (.if_icmp .eq 26, 3) := by decide +kernel
theorem dX11_clearsAt_38 : decode cX11_clearsAt 38 = .ok (.aload_n 0, 1) := by decide +kernel
theorem dX11_clearsAt_39 : decode cX11_clearsAt 39 = .ok (.iload 4, 2) := by decide +kernel
theorem dX11_clearsAt_41 : decode cX11_clearsAt 41 = .ok (.iload_n 2, 1) := by decide +kernel
theorem dX11_clearsAt_42 : decode cX11_clearsAt 42 = .ok (.invokevirtual 415, 3) := by decide +kernel
theorem dX11_clearsAt_45 : decode cX11_clearsAt 45 = .ok (.invokestatic 418, 3) := by decide +kernel
theorem dX11_clearsAt_48 : decode cX11_clearsAt 48 = .ok (.aload_n 0, 1) := by decide +kernel
theorem dX11_clearsAt_49 : decode cX11_clearsAt 49 = .ok (.iload_n 3, 1) := by decide +kernel
theorem dX11_clearsAt_50 : decode cX11_clearsAt 50 = .ok (.iload_n 2, 1) := by decide +kernel
theorem dX11_clearsAt_51 : decode cX11_clearsAt 51 = .ok (.invokevirtual 415, 3) := by decide +kernel
theorem dX11_clearsAt_54 : decode cX11_clearsAt 54 = .ok (.invokestatic 418, 3) := by decide +kernel
theorem dX11_clearsAt_57 : decode cX11_clearsAt 57 = .ok (.lcmp, 1) := by decide +kernel
theorem dX11_clearsAt_58 : decode cX11_clearsAt 58 = .ok (.ifCond .ge 6, 3) := by decide +kernel
theorem dX11_clearsAt_61 : decode cX11_clearsAt 61 = .ok (.iload 4, 2) := by decide +kernel
theorem dX11_clearsAt_63 : decode cX11_clearsAt 63 = .ok (.istore_n 3, 1) := by decide +kernel
theorem dX11_clearsAt_64 : decode cX11_clearsAt 64 = .ok (.iinc 4 1, 3) := by decide +kernel
theorem dX11_clearsAt_67 : decode cX11_clearsAt 67 = .ok (.goto (-55), 3) := by decide +kernel
theorem dX11_clearsAt_70 : decode cX11_clearsAt 70 = .ok (.iload_n 3, 1) := by decide +kernel
theorem dX11_clearsAt_71 : decode cX11_clearsAt 71 = .ok (.iconst (-1), 1) := by decide +kernel
theorem dX11_clearsAt_72 : decode cX11_clearsAt 72 = .ok (.if_icmp .ne 20, 3) := by decide +kernel
theorem dX11_clearsAt_75 : decode cX11_clearsAt 75 = .ok (.aload_n 0, 1) := by decide +kernel
theorem dX11_clearsAt_76 : decode cX11_clearsAt 76 = .ok (.getfield 64, 3) := by decide +kernel
theorem dX11_clearsAt_79 : decode cX11_clearsAt 79 = .ok (.iload_n 2, 1) := by decide +kernel
theorem dX11_clearsAt_80 : decode cX11_clearsAt 80 = .ok (.laload, 1) := by decide +kernel
theorem dX11_clearsAt_81 : decode cX11_clearsAt 81 = .ok (.lconst 0, 1) := by decide +kernel
theorem dX11_clearsAt_82 : decode cX11_clearsAt 82 = .ok (.lcmp, 1) := by decide +kernel
theorem dX11_clearsAt_83 : decode cX11_clearsAt 83 = .ok (.ifCond .ne 7, 3) := by decide +kernel
theorem dX11_clearsAt_86 : decode cX11_clearsAt 86 = .ok (.iconst 1, 1) := by decide +kernel
theorem dX11_clearsAt_87 : decode cX11_clearsAt 87 = .ok (.goto 4, 3) := by decide +kernel
theorem dX11_clearsAt_90 : decode cX11_clearsAt 90 = .ok (.iconst 0, 1) := by decide +kernel
theorem dX11_clearsAt_91 : decode cX11_clearsAt 91 = .ok (.ireturn, 1) := by decide +kernel
theorem dX11_clearsAt_92 : decode cX11_clearsAt 92 = .ok (.aload_n 0, 1) := by decide +kernel
theorem dX11_clearsAt_93 : decode cX11_clearsAt 93 = .ok (.iload_n 3, 1) := by decide +kernel
theorem dX11_clearsAt_94 : decode cX11_clearsAt 94 = .ok (.iload_n 1, 1) := by decide +kernel
theorem dX11_clearsAt_95 : decode cX11_clearsAt 95 = .ok (.invokevirtual 421, 3) := by decide +kernel
theorem dX11_clearsAt_98 : decode cX11_clearsAt 98 = .ok (.iconst 0, 1) := by decide +kernel
theorem dX11_clearsAt_99 : decode cX11_clearsAt 99 = .ok (.istore 4, 2) := by decide +kernel
theorem dX11_clearsAt_101 : decode cX11_clearsAt 101 = .ok (.iload_n 1, 1) := by decide +kernel
theorem dX11_clearsAt_102 : decode cX11_clearsAt 102 = .ok (.iconst 1, 1) := by decide +kernel
theorem dX11_clearsAt_103 : decode cX11_clearsAt 103 = .ok (.iadd, 1) := by decide +kernel
theorem dX11_clearsAt_104 : decode cX11_clearsAt 104 = .ok (.istore 5, 2) := by decide +kernel
theorem dX11_clearsAt_106 : decode cX11_clearsAt 106 = .ok (.iload 5, 2) := by decide +kernel
theorem dX11_clearsAt_108 : decode cX11_clearsAt 108 = .ok (.aload_n 0, 1) := by decide +kernel
theorem dX11_clearsAt_109 : decode cX11_clearsAt 109 = .ok (.getfield 383, 3) := by decide +kernel
theorem dX11_clearsAt_112 : decode cX11_clearsAt 112 = .ok (.if_icmp .ge 54, 3) := by decide +kernel
theorem dX11_clearsAt_115 : decode cX11_clearsAt 115 = .ok (.aload_n 0, 1) := by decide +kernel
theorem dX11_clearsAt_116 : decode cX11_clearsAt 116 = .ok (.iload 5, 2) := by decide +kernel
theorem dX11_clearsAt_118 : decode cX11_clearsAt 118 = .ok (.iload_n 1, 1) := by decide +kernel
theorem dX11_clearsAt_119 : decode cX11_clearsAt 119 = .ok (.aload_n 0, 1) := by decide +kernel
theorem dX11_clearsAt_120 : decode cX11_clearsAt 120 = .ok (.iload 5, 2) := by decide +kernel
theorem dX11_clearsAt_122 : decode cX11_clearsAt 122 = .ok (.iload_n 2, 1) := by decide +kernel
theorem dX11_clearsAt_123 : decode cX11_clearsAt 123 = .ok (.invokevirtual 415, 3) := by decide +kernel
theorem dX11_clearsAt_126 : decode cX11_clearsAt 126 = .ok (.aload_n 0, 1) := by decide +kernel
theorem dX11_clearsAt_127 : decode cX11_clearsAt 127 = .ok (.iload_n 1, 1) := by decide +kernel
theorem dX11_clearsAt_128 : decode cX11_clearsAt 128 = .ok (.iload_n 2, 1) := by decide +kernel
theorem dX11_clearsAt_129 : decode cX11_clearsAt 129 = .ok (.invokevirtual 415, 3) := by decide +kernel
theorem dX11_clearsAt_132 : decode cX11_clearsAt 132 = .ok (.ldiv, 1) := by decide +kernel
theorem dX11_clearsAt_133 : decode cX11_clearsAt 133 = .ok (.invokevirtual 424, 3) := by decide +kernel
theorem dX11_clearsAt_136 : decode cX11_clearsAt 136 = .ok (.iload 4, 2) := by decide +kernel
theorem dX11_clearsAt_138 : decode cX11_clearsAt 138 = .ok (.ifCond .ne 15, 3) := by decide +kernel
theorem dX11_clearsAt_141 : decode cX11_clearsAt 141 = .ok (.aload_n 0, 1) := by decide +kernel
theorem dX11_clearsAt_142 : decode cX11_clearsAt 142 = .ok (.iload 5, 2) := by decide +kernel
theorem dX11_clearsAt_144 : decode cX11_clearsAt 144 = .ok (.iload_n 2, 1) := by decide +kernel
theorem dX11_clearsAt_145 : decode cX11_clearsAt 145 = .ok (.invokevirtual 415, 3) := by decide +kernel
theorem dX11_clearsAt_148 : decode cX11_clearsAt 148 = .ok (.lconst 0, 1) := by decide +kernel
theorem dX11_clearsAt_149 : decode cX11_clearsAt 149 = .ok (.lcmp, 1) := by decide +kernel
theorem dX11_clearsAt_150 : decode cX11_clearsAt 150 = .ok (.ifCond .eq 7, 3) := by decide +kernel
theorem dX11_clearsAt_153 : decode cX11_clearsAt 153 = .ok (.iconst 1, 1) := by decide +kernel
theorem dX11_clearsAt_154 : decode cX11_clearsAt 154 = .ok (.goto 4, 3) := by decide +kernel
theorem dX11_clearsAt_157 : decode cX11_clearsAt 157 = .ok (.iconst 0, 1) := by decide +kernel
theorem dX11_clearsAt_158 : decode cX11_clearsAt 158 = .ok (.istore 4, 2) := by decide +kernel
theorem dX11_clearsAt_160 : decode cX11_clearsAt 160 = .ok (.iinc 5 1, 3) := by decide +kernel
theorem dX11_clearsAt_163 : decode cX11_clearsAt 163 = .ok (.goto (-57), 3) := by decide +kernel
theorem dX11_clearsAt_166 : decode cX11_clearsAt 166 = .ok (.iload 4, 2) := by decide +kernel
theorem dX11_clearsAt_168 : decode cX11_clearsAt 168 = .ok (.ifCond .ne 5, 3) := by decide +kernel
theorem dX11_clearsAt_171 : decode cX11_clearsAt 171 = .ok (.iconst (-1), 1) := by decide +kernel
theorem dX11_clearsAt_172 : decode cX11_clearsAt 172 = .ok (.istore_n 3, 1) := by decide +kernel
theorem dX11_clearsAt_173 : decode cX11_clearsAt 173 = .ok (.goto (-171), 3) := by decide +kernel
theorem dX11_clearsAt_176 : decode cX11_clearsAt 176 = .ok (.aload_n 0, 1) := by decide +kernel
theorem dX11_clearsAt_177 : decode cX11_clearsAt 177 = .ok (.iconst 1, 1) := by decide +kernel
theorem dX11_clearsAt_178 : decode cX11_clearsAt 178 = .ok (.putfield 427, 3) := by decide +kernel
theorem dX11_clearsAt_181 : decode cX11_clearsAt 181 = .ok (.aload_n 0, 1) := by decide +kernel
theorem dX11_clearsAt_182 : decode cX11_clearsAt 182 = .ok (.getfield 64, 3) := by decide +kernel
theorem dX11_clearsAt_185 : decode cX11_clearsAt 185 = .ok (.iload_n 2, 1) := by decide +kernel
theorem dX11_clearsAt_186 : decode cX11_clearsAt 186 = .ok (.laload, 1) := by decide +kernel
theorem dX11_clearsAt_187 : decode cX11_clearsAt 187 = .ok (.aload_n 0, 1) := by decide +kernel
theorem dX11_clearsAt_188 : decode cX11_clearsAt 188 = .ok (.iload_n 1, 1) := by decide +kernel
theorem dX11_clearsAt_189 : decode cX11_clearsAt 189 = .ok (.iload_n 2, 1) := by decide +kernel
theorem dX11_clearsAt_190 : decode cX11_clearsAt 190 = .ok (.invokevirtual 415, 3) := by decide +kernel
theorem dX11_clearsAt_193 : decode cX11_clearsAt 193 = .ok (.lrem, 1) := by decide +kernel
theorem dX11_clearsAt_194 : decode cX11_clearsAt 194 = .ok (.lconst 0, 1) := by decide +kernel
theorem dX11_clearsAt_195 : decode cX11_clearsAt 195 = .ok (.lcmp, 1) := by decide +kernel
theorem dX11_clearsAt_196 : decode cX11_clearsAt 196 = .ok (.ifCond .eq 5, 3) := by decide +kernel
theorem dX11_clearsAt_199 : decode cX11_clearsAt 199 = .ok (.iconst 0, 1) := by decide +kernel
theorem dX11_clearsAt_200 : decode cX11_clearsAt 200 = .ok (.ireturn, 1) := by decide +kernel
theorem dX11_clearsAt_201 : decode cX11_clearsAt 201 = .ok (.aload_n 0, 1) := by decide +kernel
theorem dX11_clearsAt_202 : decode cX11_clearsAt 202 = .ok (.getfield 64, 3) := by decide +kernel
theorem dX11_clearsAt_205 : decode cX11_clearsAt 205 = .ok (.iload_n 2, 1) := by decide +kernel
theorem dX11_clearsAt_206 : decode cX11_clearsAt 206 = .ok (.laload, 1) := by decide +kernel
theorem dX11_clearsAt_207 : decode cX11_clearsAt 207 = .ok (.aload_n 0, 1) := by decide +kernel
theorem dX11_clearsAt_208 : decode cX11_clearsAt 208 = .ok (.iload_n 1, 1) := by decide +kernel
theorem dX11_clearsAt_209 : decode cX11_clearsAt 209 = .ok (.iload_n 2, 1) := by decide +kernel
theorem dX11_clearsAt_210 : decode cX11_clearsAt 210 = .ok (.invokevirtual 415, 3) := by decide +kernel
theorem dX11_clearsAt_213 : decode cX11_clearsAt 213 = .ok (.ldiv, 1) := by decide +kernel
theorem dX11_clearsAt_214 : decode cX11_clearsAt 214 = .ok (.lstore 4, 2) := by decide +kernel
theorem dX11_clearsAt_216 : decode cX11_clearsAt 216 = .ok (.iconst 0, 1) := by decide +kernel
theorem dX11_clearsAt_217 : decode cX11_clearsAt 217 = .ok (.istore 6, 2) := by decide +kernel
theorem dX11_clearsAt_219 : decode cX11_clearsAt 219 = .ok (.iload 6, 2) := by decide +kernel
theorem dX11_clearsAt_221 : decode cX11_clearsAt 221 = .ok (.bipush 18, 2) := by decide +kernel
theorem dX11_clearsAt_223 : decode cX11_clearsAt 223 = .ok (.if_icmp .ge 34, 3) := by decide +kernel
theorem dX11_clearsAt_226 : decode cX11_clearsAt 226 = .ok (.aload_n 0, 1) := by decide +kernel
theorem dX11_clearsAt_227 : decode cX11_clearsAt 227 = .ok (.getfield 64, 3) := by decide +kernel
theorem dX11_clearsAt_230 : decode cX11_clearsAt 230 = .ok (.iload 6, 2) := by decide +kernel
theorem dX11_clearsAt_232 : decode cX11_clearsAt 232 = .ok (.aload_n 0, 1) := by decide +kernel
theorem dX11_clearsAt_233 : decode cX11_clearsAt 233 = .ok (.getfield 64, 3) := by decide +kernel
theorem dX11_clearsAt_236 : decode cX11_clearsAt 236 = .ok (.iload 6, 2) := by decide +kernel
theorem dX11_clearsAt_238 : decode cX11_clearsAt 238 = .ok (.laload, 1) := by decide +kernel
theorem dX11_clearsAt_239 : decode cX11_clearsAt 239 = .ok (.lload 4, 2) := by decide +kernel
theorem dX11_clearsAt_241 : decode cX11_clearsAt 241 = .ok (.aload_n 0, 1) := by decide +kernel
theorem dX11_clearsAt_242 : decode cX11_clearsAt 242 = .ok (.iload_n 1, 1) := by decide +kernel
theorem dX11_clearsAt_243 : decode cX11_clearsAt 243 = .ok (.iload 6, 2) := by decide +kernel
theorem dX11_clearsAt_245 : decode cX11_clearsAt 245 = .ok (.invokevirtual 415, 3) := by decide +kernel
theorem dX11_clearsAt_248 : decode cX11_clearsAt 248 = .ok (.lmul, 1) := by decide +kernel
theorem dX11_clearsAt_249 : decode cX11_clearsAt 249 = .ok (.lsub, 1) := by decide +kernel
theorem dX11_clearsAt_250 : decode cX11_clearsAt 250 = .ok (.lastore, 1) := by decide +kernel
theorem dX11_clearsAt_251 : decode cX11_clearsAt 251 = .ok (.iinc 6 1, 3) := by decide +kernel
theorem dX11_clearsAt_254 : decode cX11_clearsAt 254 = .ok (.goto (-35), 3) := by decide +kernel
theorem dX11_clearsAt_257 : decode cX11_clearsAt 257 = .ok (.iconst 1, 1) := by decide +kernel
theorem dX11_clearsAt_258 : decode cX11_clearsAt 258 = .ok (.ireturn, 1) := by decide +kernel
theorem dX11_canMake_0 : decode cX11_canMake 0 = .ok (.aload_n 0, 1) := by decide +kernel
theorem dX11_canMake_1 : decode cX11_canMake 1 = .ok (.iconst 0, 1) := by decide +kernel
theorem dX11_canMake_2 : decode cX11_canMake 2 = .ok (.putfield 430, 3) := by decide +kernel
theorem dX11_canMake_5 : decode cX11_canMake 5 = .ok (.iconst 0, 1) := by decide +kernel
theorem dX11_canMake_6 : decode cX11_canMake 6 = .ok (.istore_n 1, 1) := by decide +kernel
theorem dX11_canMake_7 : decode cX11_canMake 7 = .ok (.iload_n 1, 1) := by decide +kernel
theorem dX11_canMake_8 : decode cX11_canMake 8 = .ok (.bipush 6, 2) := by decide +kernel
theorem dX11_canMake_10 : decode cX11_canMake 10 = .ok (.if_icmp .ge 45, 3) := by decide +kernel
theorem dX11_canMake_13 : decode cX11_canMake 13 = .ok (.aload_n 0, 1) := by decide +kernel
theorem dX11_canMake_14 : decode cX11_canMake 14 = .ok (.iconst 0, 1) := by decide +kernel
theorem dX11_canMake_15 : decode cX11_canMake 15 = .ok (.putfield 427, 3) := by decide +kernel
theorem dX11_canMake_18 : decode cX11_canMake 18 = .ok (.aload_n 0, 1) := by decide +kernel
theorem dX11_canMake_19 : decode cX11_canMake 19 = .ok (.aload_n 0, 1) := by decide +kernel
theorem dX11_canMake_20 : decode cX11_canMake 20 = .ok (.getfield 430, 3) := by decide +kernel
theorem dX11_canMake_23 : decode cX11_canMake 23 = .ok (.iload_n 1, 1) := by decide +kernel
theorem dX11_canMake_24 : decode cX11_canMake 24 = .ok (.invokevirtual 433, 3) := by decide +kernel
theorem dX11_canMake_27 : decode cX11_canMake 27 = .ok (.ifCond .ne 5, 3) := by decide +kernel
theorem dX11_canMake_30 : decode cX11_canMake 30 = .ok (.iconst 0, 1) := by decide +kernel
theorem dX11_canMake_31 : decode cX11_canMake 31 = .ok (.ireturn, 1) := by decide +kernel
theorem dX11_canMake_32 : decode cX11_canMake 32 = .ok (.aload_n 0, 1) := by decide +kernel
theorem dX11_canMake_33 : decode cX11_canMake 33 = .ok (.getfield 427, 3) := by decide +kernel
theorem dX11_canMake_36 : decode cX11_canMake 36 = .ok (.ifCond .eq 13, 3) := by decide +kernel
theorem dX11_canMake_39 : decode cX11_canMake 39 = .ok (.aload_n 0, 1) := by decide +kernel
theorem dX11_canMake_40 : decode cX11_canMake 40 = .ok (.aload_n 0, 1) := by decide +kernel
theorem dX11_canMake_41 : decode cX11_canMake 41 = .ok (.getfield 430, 3) := by decide +kernel
theorem dX11_canMake_44 : decode cX11_canMake 44 = .ok (.iconst 1, 1) := by decide +kernel
theorem dX11_canMake_45 : decode cX11_canMake 45 = .ok (.iadd, 1) := by decide +kernel
theorem dX11_canMake_46 : decode cX11_canMake 46 = .ok (.putfield 430, 3) := by decide +kernel
theorem dX11_canMake_49 : decode cX11_canMake 49 = .ok (.iinc 1 1, 3) := by decide +kernel
theorem dX11_canMake_52 : decode cX11_canMake 52 = .ok (.goto (-45), 3) := by decide +kernel
theorem dX11_canMake_55 : decode cX11_canMake 55 = .ok (.iconst 1, 1) := by decide +kernel
theorem dX11_canMake_56 : decode cX11_canMake 56 = .ok (.ireturn, 1) := by decide +kernel
theorem dX11_adds_0 : decode cX11_adds 0 = .ok (.aload_n 0, 1) := by decide +kernel
theorem dX11_adds_1 : decode cX11_adds 1 = .ok (.iload_n 1, 1) := by decide +kernel
theorem dX11_adds_2 : decode cX11_adds 2 = .ok (.iload_n 2, 1) := by decide +kernel
theorem dX11_adds_3 : decode cX11_adds 3 = .ok (.bipush 50, 2) := by decide +kernel
theorem dX11_adds_5 : decode cX11_adds 5 = .ok (.invokevirtual 254, 3) := by decide +kernel
theorem dX11_adds_8 : decode cX11_adds 8 = .ok (.iconst 0, 1) := by decide +kernel
theorem dX11_adds_9 : decode cX11_adds 9 = .ok (.istore 4, 2) := by decide +kernel
theorem dX11_adds_11 : decode cX11_adds 11 = .ok (.iload 4, 2) := by decide +kernel
theorem dX11_adds_13 : decode cX11_adds 13 = .ok (.bipush 18, 2) := by decide +kernel
theorem dX11_adds_15 : decode cX11_adds 15 = .ok (.if_icmp .ge 25, 3) := by decide +kernel
theorem dX11_adds_18 : decode cX11_adds 18 = .ok (.aload_n 0, 1) := by decide +kernel
theorem dX11_adds_19 : decode cX11_adds 19 = .ok (.getfield 61, 3) := by decide +kernel
theorem dX11_adds_22 : decode cX11_adds 22 = .ok (.bipush 18, 2) := by decide +kernel
theorem dX11_adds_24 : decode cX11_adds 24 = .ok (.aload_n 0, 1) := by decide +kernel
theorem dX11_adds_25 : decode cX11_adds 25 = .ok (.getfield 383, 3) := by decide +kernel
theorem dX11_adds_28 : decode cX11_adds 28 = .ok (.imul, 1) := by decide +kernel
theorem dX11_adds_29 : decode cX11_adds 29 = .ok (.iload 4, 2) := by decide +kernel
theorem dX11_adds_31 : decode cX11_adds 31 = .ok (.iadd, 1) := by decide +kernel
theorem dX11_adds_32 : decode cX11_adds 32 = .ok (.lconst 0, 1) := by decide +kernel
theorem dX11_adds_33 : decode cX11_adds 33 = .ok (.lastore, 1) := by decide +kernel
theorem dX11_adds_34 : decode cX11_adds 34 = .ok (.iinc 4 1, 3) := by decide +kernel
theorem dX11_adds_37 : decode cX11_adds 37 = .ok (.goto (-26), 3) := by decide +kernel
theorem dX11_adds_40 : decode cX11_adds 40 = .ok (.iconst 0, 1) := by decide +kernel
theorem dX11_adds_41 : decode cX11_adds 41 = .ok (.istore 4, 2) := by decide +kernel
theorem dX11_adds_43 : decode cX11_adds 43 = .ok (.iload 4, 2) := by decide +kernel
theorem dX11_adds_45 : decode cX11_adds 45 = .ok (.aload_n 0, 1) := by decide +kernel
theorem dX11_adds_46 : decode cX11_adds 46 = .ok (.invokevirtual 88, 3) := by decide +kernel
theorem dX11_adds_49 : decode cX11_adds 49 = .ok (.if_icmp .ge 42, 3) := by decide +kernel
theorem dX11_adds_52 : decode cX11_adds 52 = .ok (.aload_n 0, 1) := by decide +kernel
theorem dX11_adds_53 : decode cX11_adds 53 = .ok (.iload 4, 2) := by decide +kernel
theorem dX11_adds_55 : decode cX11_adds 55 = .ok (.invokevirtual 92, 3) := by decide +kernel
theorem dX11_adds_58 : decode cX11_adds 58 = .ok (.iload_n 3, 1) := by decide +kernel
theorem dX11_adds_59 : decode cX11_adds 59 = .ok (.if_icmp .ne 26, 3) := by decide +kernel
theorem dX11_adds_62 : decode cX11_adds 62 = .ok (.aload_n 0, 1) := by decide +kernel
theorem dX11_adds_63 : decode cX11_adds 63 = .ok (.getfield 61, 3) := by decide +kernel
theorem dX11_adds_66 : decode cX11_adds 66 = .ok (.bipush 18, 2) := by decide +kernel
theorem dX11_adds_68 : decode cX11_adds 68 = .ok (.aload_n 0, 1) := by decide +kernel
theorem dX11_adds_69 : decode cX11_adds 69 = .ok (.getfield 383, 3) := by decide +kernel
theorem dX11_adds_72 : decode cX11_adds 72 = .ok (.imul, 1) := by decide +kernel
theorem dX11_adds_73 : decode cX11_adds 73 = .ok (.iload 4, 2) := by decide +kernel
theorem dX11_adds_75 : decode cX11_adds 75 = .ok (.iadd, 1) := by decide +kernel
theorem dX11_adds_76 : decode cX11_adds 76 = .ok (.aload_n 0, 1) := by decide +kernel
theorem dX11_adds_77 : decode cX11_adds 77 = .ok (.bipush 50, 2) := by decide +kernel
theorem dX11_adds_79 : decode cX11_adds 79 = .ok (.iload 4, 2) := by decide +kernel
theorem dX11_adds_81 : decode cX11_adds 81 = .ok (.invokevirtual 166, 3) := by decide +kernel
theorem dX11_adds_84 : decode cX11_adds 84 = .ok (.lastore, 1) := by decide +kernel
theorem dX11_adds_85 : decode cX11_adds 85 = .ok (.iinc 4 1, 3) := by decide +kernel
theorem dX11_adds_88 : decode cX11_adds 88 = .ok (.goto (-45), 3) := by decide +kernel
theorem dX11_adds_91 : decode cX11_adds 91 = .ok (.iconst 0, 1) := by decide +kernel
theorem dX11_adds_92 : decode cX11_adds 92 = .ok (.istore 4, 2) := by decide +kernel
theorem dX11_adds_94 : decode cX11_adds 94 = .ok (.iload 4, 2) := by decide +kernel
theorem dX11_adds_96 : decode cX11_adds 96 = .ok (.aload_n 0, 1) := by decide +kernel
theorem dX11_adds_97 : decode cX11_adds 97 = .ok (.invokevirtual 88, 3) := by decide +kernel
theorem dX11_adds_100 : decode cX11_adds 100 = .ok (.if_icmp .ge 34, 3) := by decide +kernel
theorem dX11_adds_103 : decode cX11_adds 103 = .ok (.aload_n 0, 1) := by decide +kernel
theorem dX11_adds_104 : decode cX11_adds 104 = .ok (.getfield 61, 3) := by decide +kernel
theorem dX11_adds_107 : decode cX11_adds 107 = .ok (.bipush 18, 2) := by decide +kernel
theorem dX11_adds_109 : decode cX11_adds 109 = .ok (.aload_n 0, 1) := by decide +kernel
theorem dX11_adds_110 : decode cX11_adds 110 = .ok (.getfield 383, 3) := by decide +kernel
theorem dX11_adds_113 : decode cX11_adds 113 = .ok (.imul, 1) := by decide +kernel
theorem dX11_adds_114 : decode cX11_adds 114 = .ok (.bipush 12, 2) := by decide +kernel
theorem dX11_adds_116 : decode cX11_adds 116 = .ok (.iadd, 1) := by decide +kernel
theorem dX11_adds_117 : decode cX11_adds 117 = .ok (.iload 4, 2) := by decide +kernel
theorem dX11_adds_119 : decode cX11_adds 119 = .ok (.iadd, 1) := by decide +kernel
theorem dX11_adds_120 : decode cX11_adds 120 = .ok (.aload_n 0, 1) := by decide +kernel
theorem dX11_adds_121 : decode cX11_adds 121 = .ok (.iload_n 2, 1) := by decide +kernel
theorem dX11_adds_122 : decode cX11_adds 122 = .ok (.iload 4, 2) := by decide +kernel
theorem dX11_adds_124 : decode cX11_adds 124 = .ok (.invokevirtual 166, 3) := by decide +kernel
theorem dX11_adds_127 : decode cX11_adds 127 = .ok (.lastore, 1) := by decide +kernel
theorem dX11_adds_128 : decode cX11_adds 128 = .ok (.iinc 4 1, 3) := by decide +kernel
theorem dX11_adds_131 : decode cX11_adds 131 = .ok (.goto (-37), 3) := by decide +kernel
theorem dX11_adds_134 : decode cX11_adds 134 = .ok (.aload_n 0, 1) := by decide +kernel
theorem dX11_adds_135 : decode cX11_adds 135 = .ok (.aload_n 0, 1) := by decide +kernel
theorem dX11_adds_136 : decode cX11_adds 136 = .ok (.getfield 383, 3) := by decide +kernel
theorem dX11_adds_139 : decode cX11_adds 139 = .ok (.iconst 1, 1) := by decide +kernel
theorem dX11_adds_140 : decode cX11_adds 140 = .ok (.iadd, 1) := by decide +kernel
theorem dX11_adds_141 : decode cX11_adds 141 = .ok (.putfield 383, 3) := by decide +kernel
theorem dX11_adds_144 : decode cX11_adds 144 = .ok (.return_, 1) := by decide +kernel
theorem dX11_letterAt_0 : decode cX11_letterAt 0 = .ok (.aload_n 0, 1) := by decide +kernel
theorem dX11_letterAt_1 : decode cX11_letterAt 1 = .ok (.iload_n 1, 1) := by decide +kernel
theorem dX11_letterAt_2 : decode cX11_letterAt 2 = .ok (.invokevirtual 190, 3) := by decide +kernel
theorem dX11_letterAt_5 : decode cX11_letterAt 5 = .ok (.aload_n 0, 1) := by decide +kernel
theorem dX11_letterAt_6 : decode cX11_letterAt 6 = .ok (.iload_n 1, 1) := by decide +kernel
theorem dX11_letterAt_7 : decode cX11_letterAt 7 = .ok (.iload_n 2, 1) := by decide +kernel
theorem dX11_letterAt_8 : decode cX11_letterAt 8 = .ok (.lload_n 3, 1) := by decide +kernel
theorem dX11_letterAt_9 : decode cX11_letterAt 9 = .ok (.invokevirtual 162, 3) := by decide +kernel
theorem dX11_letterAt_12 : decode cX11_letterAt 12 = .ok (.return_, 1) := by decide +kernel
theorem dX11_areAlikeUpTo_0 : decode cX11_areAlikeUpTo 0 = .ok (.iconst 0, 1) := by decide +kernel
theorem dX11_areAlikeUpTo_1 : decode cX11_areAlikeUpTo 1 = .ok (.istore 4, 2) := by decide +kernel
theorem dX11_areAlikeUpTo_3 : decode cX11_areAlikeUpTo 3 = .ok (.iload 4, 2) := by decide +kernel
theorem dX11_areAlikeUpTo_5 : decode cX11_areAlikeUpTo 5 = .ok (.aload_n 0, 1) := by decide +kernel
theorem dX11_areAlikeUpTo_6 : decode cX11_areAlikeUpTo 6 = .ok (.invokevirtual 88, 3) := by decide +kernel
theorem dX11_areAlikeUpTo_9 : decode cX11_areAlikeUpTo 9 = .ok (.if_icmp .ge 39, 3) := by decide +kernel
theorem dX11_areAlikeUpTo_12 : decode cX11_areAlikeUpTo 12 = .ok (.aload_n 0, 1) := by decide +kernel
theorem dX11_areAlikeUpTo_13 : decode cX11_areAlikeUpTo 13 = .ok (.iload 4, 2) := by decide +kernel
theorem dX11_areAlikeUpTo_15 : decode cX11_areAlikeUpTo 15 = .ok (.invokevirtual 92, 3) := by decide +kernel
theorem dX11_areAlikeUpTo_18 : decode cX11_areAlikeUpTo 18 = .ok (.iload_n 1, 1) := by decide +kernel
theorem dX11_areAlikeUpTo_19 : decode cX11_areAlikeUpTo 19 = .ok (.if_icmp .gt 23, 3) := by decide +kernel
theorem dX11_areAlikeUpTo_22 : decode cX11_areAlikeUpTo 22 = .ok (.aload_n 0, 1) := by decide +kernel
theorem dX11_areAlikeUpTo_23 : decode cX11_areAlikeUpTo 23 = .ok (.iload_n 2, 1) := by decide +kernel
theorem dX11_areAlikeUpTo_24 : decode cX11_areAlikeUpTo 24 = .ok (.iload 4, 2) := by decide +kernel
theorem dX11_areAlikeUpTo_26 : decode cX11_areAlikeUpTo 26 = .ok (.invokevirtual 166, 3) := by decide +kernel
theorem dX11_areAlikeUpTo_29 : decode cX11_areAlikeUpTo 29 = .ok (.aload_n 0, 1) := by decide +kernel
theorem dX11_areAlikeUpTo_30 : decode cX11_areAlikeUpTo 30 = .ok (.iload_n 3, 1) := by decide +kernel
theorem dX11_areAlikeUpTo_31 : decode cX11_areAlikeUpTo 31 = .ok (.iload 4, 2) := by decide +kernel
theorem dX11_areAlikeUpTo_33 : decode cX11_areAlikeUpTo 33 = .ok (.invokevirtual 166, 3) := by decide +kernel
theorem dX11_areAlikeUpTo_36 : decode cX11_areAlikeUpTo 36 = .ok (.lcmp, 1) := by decide +kernel
theorem dX11_areAlikeUpTo_37 : decode cX11_areAlikeUpTo 37 = .ok (.ifCond .eq 5, 3) := by decide +kernel
theorem dX11_areAlikeUpTo_40 : decode cX11_areAlikeUpTo 40 = .ok (.iconst 0, 1) := by decide +kernel
theorem dX11_areAlikeUpTo_41 : decode cX11_areAlikeUpTo 41 = .ok (.ireturn, 1) := by decide +kernel
theorem dX11_areAlikeUpTo_42 : decode cX11_areAlikeUpTo 42 = .ok (.iinc 4 1, 3) := by decide +kernel
theorem dX11_areAlikeUpTo_45 : decode cX11_areAlikeUpTo 45 = .ok (.goto (-42), 3) := by decide +kernel
theorem dX11_areAlikeUpTo_48 : decode cX11_areAlikeUpTo 48 = .ok (.iconst 1, 1) := by decide +kernel
theorem dX11_areAlikeUpTo_49 : decode cX11_areAlikeUpTo 49 = .ok (.ireturn, 1) := by decide +kernel
theorem dX11_laysDue_0 : decode cX11_laysDue 0 = .ok (.iconst 0, 1) := by decide +kernel
theorem dX11_laysDue_1 : decode cX11_laysDue 1 = .ok (.istore 4, 2) := by decide +kernel
theorem dX11_laysDue_3 : decode cX11_laysDue 3 = .ok (.iload 4, 2) := by decide +kernel
theorem dX11_laysDue_5 : decode cX11_laysDue 5 = .ok (.bipush 18, 2) := by decide +kernel
theorem dX11_laysDue_7 : decode cX11_laysDue 7 = .ok (.if_icmp .ge 17, 3) := by decide +kernel
theorem dX11_laysDue_10 : decode cX11_laysDue 10 = .ok (.aload_n 0, 1) := by decide +kernel
theorem dX11_laysDue_11 : decode cX11_laysDue 11 = .ok (.getfield 64, 3) := by decide +kernel
theorem dX11_laysDue_14 : decode cX11_laysDue 14 = .ok (.iload 4, 2) := by decide +kernel
theorem dX11_laysDue_16 : decode cX11_laysDue 16 = .ok (.lconst 0, 1) := by decide +kernel
theorem dX11_laysDue_17 : decode cX11_laysDue 17 = .ok (.lastore, 1) := by decide +kernel
theorem dX11_laysDue_18 : decode cX11_laysDue 18 = .ok (.iinc 4 1, 3) := by decide +kernel
theorem dX11_laysDue_21 : decode cX11_laysDue 21 = .ok (.goto (-18), 3) := by decide +kernel
theorem dX11_laysDue_24 : decode cX11_laysDue 24 = .ok (.iconst 0, 1) := by decide +kernel
theorem dX11_laysDue_25 : decode cX11_laysDue 25 = .ok (.istore 4, 2) := by decide +kernel
theorem dX11_laysDue_27 : decode cX11_laysDue 27 = .ok (.iload 4, 2) := by decide +kernel
theorem dX11_laysDue_29 : decode cX11_laysDue 29 = .ok (.aload_n 0, 1) := by decide +kernel
theorem dX11_laysDue_30 : decode cX11_laysDue 30 = .ok (.invokevirtual 88, 3) := by decide +kernel
theorem dX11_laysDue_33 : decode cX11_laysDue 33 = .ok (.if_icmp .ge 41, 3) := by decide +kernel
theorem dX11_laysDue_36 : decode cX11_laysDue 36 = .ok (.aload_n 0, 1) := by decide +kernel
theorem dX11_laysDue_37 : decode cX11_laysDue 37 = .ok (.iload 4, 2) := by decide +kernel
theorem dX11_laysDue_39 : decode cX11_laysDue 39 = .ok (.invokevirtual 92, 3) := by decide +kernel
theorem dX11_laysDue_42 : decode cX11_laysDue 42 = .ok (.iload_n 3, 1) := by decide +kernel
theorem dX11_laysDue_43 : decode cX11_laysDue 43 = .ok (.if_icmp .ne 25, 3) := by decide +kernel
theorem dX11_laysDue_46 : decode cX11_laysDue 46 = .ok (.aload_n 0, 1) := by decide +kernel
theorem dX11_laysDue_47 : decode cX11_laysDue 47 = .ok (.getfield 64, 3) := by decide +kernel
theorem dX11_laysDue_50 : decode cX11_laysDue 50 = .ok (.iload 4, 2) := by decide +kernel
theorem dX11_laysDue_52 : decode cX11_laysDue 52 = .ok (.aload_n 0, 1) := by decide +kernel
theorem dX11_laysDue_53 : decode cX11_laysDue 53 = .ok (.iload_n 2, 1) := by decide +kernel
theorem dX11_laysDue_54 : decode cX11_laysDue 54 = .ok (.iload 4, 2) := by decide +kernel
theorem dX11_laysDue_56 : decode cX11_laysDue 56 = .ok (.invokevirtual 166, 3) := by decide +kernel
theorem dX11_laysDue_59 : decode cX11_laysDue 59 = .ok (.aload_n 0, 1) := by decide +kernel
theorem dX11_laysDue_60 : decode cX11_laysDue 60 = .ok (.iload_n 1, 1) := by decide +kernel
theorem dX11_laysDue_61 : decode cX11_laysDue 61 = .ok (.iload 4, 2) := by decide +kernel
theorem dX11_laysDue_63 : decode cX11_laysDue 63 = .ok (.invokevirtual 166, 3) := by decide +kernel
theorem dX11_laysDue_66 : decode cX11_laysDue 66 = .ok (.lsub, 1) := by decide +kernel
theorem dX11_laysDue_67 : decode cX11_laysDue 67 = .ok (.lastore, 1) := by decide +kernel
theorem dX11_laysDue_68 : decode cX11_laysDue 68 = .ok (.iinc 4 1, 3) := by decide +kernel
theorem dX11_laysDue_71 : decode cX11_laysDue 71 = .ok (.goto (-44), 3) := by decide +kernel
theorem dX11_laysDue_74 : decode cX11_laysDue 74 = .ok (.return_, 1) := by decide +kernel
theorem dX11_areAlike_0 : decode cX11_areAlike 0 = .ok (.aload_n 0, 1) := by decide +kernel
theorem dX11_areAlike_1 : decode cX11_areAlike 1 = .ok (.iconst 1, 1) := by decide +kernel
theorem dX11_areAlike_2 : decode cX11_areAlike 2 = .ok (.iconst 0, 1) := by decide +kernel
theorem dX11_areAlike_3 : decode cX11_areAlike 3 = .ok (.iconst 1, 1) := by decide +kernel
theorem dX11_areAlike_4 : decode cX11_areAlike 4 = .ok (.invokevirtual 436, 3) := by decide +kernel
theorem dX11_areAlike_7 : decode cX11_areAlike 7 = .ok (.ifCond .ne 5, 3) := by decide +kernel
theorem dX11_areAlike_10 : decode cX11_areAlike 10 = .ok (.iconst 0, 1) := by decide +kernel
theorem dX11_areAlike_11 : decode cX11_areAlike 11 = .ok (.ireturn, 1) := by decide +kernel
theorem dX11_areAlike_12 : decode cX11_areAlike 12 = .ok (.aload_n 0, 1) := by decide +kernel
theorem dX11_areAlike_13 : decode cX11_areAlike 13 = .ok (.iconst 0, 1) := by decide +kernel
theorem dX11_areAlike_14 : decode cX11_areAlike 14 = .ok (.putfield 383, 3) := by decide +kernel
theorem dX11_areAlike_17 : decode cX11_areAlike 17 = .ok (.iconst 0, 1) := by decide +kernel
theorem dX11_areAlike_18 : decode cX11_areAlike 18 = .ok (.istore_n 1, 1) := by decide +kernel
theorem dX11_areAlike_19 : decode cX11_areAlike 19 = .ok (.iload_n 1, 1) := by decide +kernel
theorem dX11_areAlike_20 : decode cX11_areAlike 20 = .ok (.aload_n 0, 1) := by decide +kernel
theorem dX11_areAlike_21 : decode cX11_areAlike 21 = .ok (.invokevirtual 88, 3) := by decide +kernel
theorem dX11_areAlike_24 : decode cX11_areAlike 24 = .ok (.if_icmp .ge 37, 3) := by decide +kernel
theorem dX11_areAlike_27 : decode cX11_areAlike 27 = .ok (.aload_n 0, 1) := by decide +kernel
theorem dX11_areAlike_28 : decode cX11_areAlike 28 = .ok (.iload_n 1, 1) := by decide +kernel
theorem dX11_areAlike_29 : decode cX11_areAlike 29 = .ok (.invokevirtual 92, 3) := by decide +kernel
theorem dX11_areAlike_32 : decode cX11_areAlike 32 = .ok (.iconst 1, 1) := by decide +kernel
theorem dX11_areAlike_33 : decode cX11_areAlike 33 = .ok (.if_icmp .le 6, 3) := by decide +kernel
theorem dX11_areAlike_36 : decode cX11_areAlike 36 = .ok (.goto 19, 3) := by decide +kernel
theorem dX11_areAlike_39 : decode cX11_areAlike 39 = .ok (.aload_n 0, 1) := by decide +kernel
theorem dX11_areAlike_40 : decode cX11_areAlike 40 = .ok (.bipush 40, 2) := by decide +kernel
theorem dX11_areAlike_42 : decode cX11_areAlike 42 = .ok (.iload_n 1, 1) := by decide +kernel
theorem dX11_areAlike_43 : decode cX11_areAlike 43 = .ok (.lconst 1, 1) := by decide +kernel
theorem dX11_areAlike_44 : decode cX11_areAlike 44 = .ok (.invokevirtual 439, 3) := by decide +kernel
theorem dX11_areAlike_47 : decode cX11_areAlike 47 = .ok (.aload_n 0, 1) := by decide +kernel
theorem dX11_areAlike_48 : decode cX11_areAlike 48 = .ok (.iconst 0, 1) := by decide +kernel
theorem dX11_areAlike_49 : decode cX11_areAlike 49 = .ok (.bipush 40, 2) := by decide +kernel
theorem dX11_areAlike_51 : decode cX11_areAlike 51 = .ok (.iconst 2, 1) := by decide +kernel
theorem dX11_areAlike_52 : decode cX11_areAlike 52 = .ok (.invokevirtual 442, 3) := by decide +kernel
theorem dX11_areAlike_55 : decode cX11_areAlike 55 = .ok (.iinc 1 1, 3) := by decide +kernel
theorem dX11_areAlike_58 : decode cX11_areAlike 58 = .ok (.goto (-39), 3) := by decide +kernel
theorem dX11_areAlike_61 : decode cX11_areAlike 61 = .ok (.aload_n 0, 1) := by decide +kernel
theorem dX11_areAlike_62 : decode cX11_areAlike 62 = .ok (.iconst 0, 1) := by decide +kernel
theorem dX11_areAlike_63 : decode cX11_areAlike 63 = .ok (.iconst 1, 1) := by decide +kernel
theorem dX11_areAlike_64 : decode cX11_areAlike 64 = .ok (.iconst 2, 1) := by decide +kernel
theorem dX11_areAlike_65 : decode cX11_areAlike 65 = .ok (.invokevirtual 445, 3) := by decide +kernel
theorem dX11_areAlike_68 : decode cX11_areAlike 68 = .ok (.aload_n 0, 1) := by decide +kernel
theorem dX11_areAlike_69 : decode cX11_areAlike 69 = .ok (.invokevirtual 389, 3) := by decide +kernel
theorem dX11_areAlike_72 : decode cX11_areAlike 72 = .ok (.ifCond .ne 5, 3) := by decide +kernel
theorem dX11_areAlike_75 : decode cX11_areAlike 75 = .ok (.iconst 0, 1) := by decide +kernel
theorem dX11_areAlike_76 : decode cX11_areAlike 76 = .ok (.ireturn, 1) := by decide +kernel
theorem dX11_areAlike_77 : decode cX11_areAlike 77 = .ok (.aload_n 0, 1) := by decide +kernel
theorem dX11_areAlike_78 : decode cX11_areAlike 78 = .ok (.iconst 0, 1) := by decide +kernel
theorem dX11_areAlike_79 : decode cX11_areAlike 79 = .ok (.putfield 448, 3) := by decide +kernel
theorem dX11_areAlike_82 : decode cX11_areAlike 82 = .ok (.aload_n 0, 1) := by decide +kernel
theorem dX11_areAlike_83 : decode cX11_areAlike 83 = .ok (.getfield 430, 3) := by decide +kernel
theorem dX11_areAlike_86 : decode cX11_areAlike 86 = .ok (.istore_n 1, 1) := by decide +kernel
theorem dX11_areAlike_87 : decode cX11_areAlike 87 = .ok (.iload_n 1, 1) := by decide +kernel
theorem dX11_areAlike_88 : decode cX11_areAlike 88 = .ok (.aload_n 0, 1) := by decide +kernel
theorem dX11_areAlike_89 : decode cX11_areAlike 89 = .ok (.getfield 383, 3) := by decide +kernel
theorem dX11_areAlike_92 : decode cX11_areAlike 92 = .ok (.if_icmp .ge 56, 3) := by decide +kernel
theorem dX11_areAlike_95 : decode cX11_areAlike 95 = .ok (.iconst 0, 1) := by decide +kernel
theorem dX11_areAlike_96 : decode cX11_areAlike 96 = .ok (.istore_n 2, 1) := by decide +kernel
theorem dX11_areAlike_97 : decode cX11_areAlike 97 = .ok (.iload_n 2, 1) := by decide +kernel
theorem dX11_areAlike_98 : decode cX11_areAlike 98 = .ok (.bipush 6, 2) := by decide +kernel
theorem dX11_areAlike_100 : decode cX11_areAlike 100 = .ok (.if_icmp .ge 32, 3) := by decide +kernel
theorem dX11_areAlike_103 : decode cX11_areAlike 103 = .ok (.aload_n 0, 1) := by decide +kernel
theorem dX11_areAlike_104 : decode cX11_areAlike 104 = .ok (.getfield 67, 3) := by decide +kernel
theorem dX11_areAlike_107 : decode cX11_areAlike 107 = .ok (.bipush 6, 2) := by decide +kernel
theorem dX11_areAlike_109 : decode cX11_areAlike 109 = .ok (.aload_n 0, 1) := by decide +kernel
theorem dX11_areAlike_110 : decode cX11_areAlike 110 = .ok (.getfield 448, 3) := by decide +kernel
theorem dX11_areAlike_113 : decode cX11_areAlike 113 = .ok (.imul, 1) := by decide +kernel
theorem dX11_areAlike_114 : decode cX11_areAlike 114 = .ok (.iload_n 2, 1) := by decide +kernel
theorem dX11_areAlike_115 : decode cX11_areAlike 115 = .ok (.iadd, 1) := by decide +kernel
theorem dX11_areAlike_116 : decode cX11_areAlike 116 = .ok (.aload_n 0, 1) := by decide +kernel
theorem dX11_areAlike_117 : decode cX11_areAlike 117 = .ok (.iload_n 1, 1) := by decide +kernel
theorem dX11_areAlike_118 : decode cX11_areAlike 118 = .ok (.bipush 12, 2) := by decide +kernel
theorem dX11_areAlike_120 : decode cX11_areAlike 120 = .ok (.iload_n 2, 1) := by decide +kernel
theorem dX11_areAlike_121 : decode cX11_areAlike 121 = .ok (.iadd, 1) := by decide +kernel
theorem dX11_areAlike_122 : decode cX11_areAlike 122 = .ok (.invokevirtual 415, 3) := by decide +kernel
theorem dX11_areAlike_125 : decode cX11_areAlike 125 = .ok (.lastore, 1) := by decide +kernel
theorem dX11_areAlike_126 : decode cX11_areAlike 126 = .ok (.iinc 2 1, 3) := by decide +kernel
theorem dX11_areAlike_129 : decode cX11_areAlike 129 = .ok (.goto (-32), 3) := by decide +kernel
theorem dX11_areAlike_132 : decode cX11_areAlike 132 = .ok (.aload_n 0, 1) := by decide +kernel
theorem dX11_areAlike_133 : decode cX11_areAlike 133 = .ok (.aload_n 0, 1) := by decide +kernel
theorem dX11_areAlike_134 : decode cX11_areAlike 134 = .ok (.getfield 448, 3) := by decide +kernel
theorem dX11_areAlike_137 : decode cX11_areAlike 137 = .ok (.iconst 1, 1) := by decide +kernel
theorem dX11_areAlike_138 : decode cX11_areAlike 138 = .ok (.iadd, 1) := by decide +kernel
theorem dX11_areAlike_139 : decode cX11_areAlike 139 = .ok (.putfield 448, 3) := by decide +kernel
theorem dX11_areAlike_142 : decode cX11_areAlike 142 = .ok (.iinc 1 1, 3) := by decide +kernel
theorem dX11_areAlike_145 : decode cX11_areAlike 145 = .ok (.goto (-58), 3) := by decide +kernel
theorem dX11_areAlike_148 : decode cX11_areAlike 148 = .ok (.aload_n 0, 1) := by decide +kernel
theorem dX11_areAlike_149 : decode cX11_areAlike 149 = .ok (.bipush 41, 2) := by decide +kernel
theorem dX11_areAlike_151 : decode cX11_areAlike 151 = .ok (.invokevirtual 190, 3) := by decide +kernel
theorem dX11_areAlike_154 : decode cX11_areAlike 154 = .ok (.iconst 0, 1) := by decide +kernel
theorem dX11_areAlike_155 : decode cX11_areAlike 155 = .ok (.istore_n 1, 1) := by decide +kernel
theorem dX11_areAlike_156 : decode cX11_areAlike 156 = .ok (.iload_n 1, 1) := by decide +kernel
theorem dX11_areAlike_157 : decode cX11_areAlike 157 = .ok (.aload_n 0, 1) := by decide +kernel
theorem dX11_areAlike_158 : decode cX11_areAlike 158 = .ok (.invokevirtual 88, 3) := by decide +kernel
theorem dX11_areAlike_161 : decode cX11_areAlike 161 = .ok (.if_icmp .ge 26, 3) := by decide +kernel
theorem dX11_areAlike_164 : decode cX11_areAlike 164 = .ok (.aload_n 0, 1) := by decide +kernel
theorem dX11_areAlike_165 : decode cX11_areAlike 165 = .ok (.bipush 41, 2) := by decide +kernel
theorem dX11_areAlike_167 : decode cX11_areAlike 167 = .ok (.iload_n 1, 1) := by decide +kernel
theorem dX11_areAlike_168 : decode cX11_areAlike 168 = .ok (.aload_n 0, 1) := by decide +kernel
theorem dX11_areAlike_169 : decode cX11_areAlike 169 = .ok (.getfield 64, 3) := by decide +kernel
theorem dX11_areAlike_172 : decode cX11_areAlike 172 = .ok (.bipush 12, 2) := by decide +kernel
theorem dX11_areAlike_174 : decode cX11_areAlike 174 = .ok (.iload_n 1, 1) := by decide +kernel
theorem dX11_areAlike_175 : decode cX11_areAlike 175 = .ok (.iadd, 1) := by decide +kernel
theorem dX11_areAlike_176 : decode cX11_areAlike 176 = .ok (.laload, 1) := by decide +kernel
theorem dX11_areAlike_177 : decode cX11_areAlike 177 = .ok (.lneg, 1) := by decide +kernel
theorem dX11_areAlike_178 : decode cX11_areAlike 178 = .ok (.invokevirtual 162, 3) := by decide +kernel
theorem dX11_areAlike_181 : decode cX11_areAlike 181 = .ok (.iinc 1 1, 3) := by decide +kernel
theorem dX11_areAlike_184 : decode cX11_areAlike 184 = .ok (.goto (-28), 3) := by decide +kernel
theorem dX11_areAlike_187 : decode cX11_areAlike 187 = .ok (.aload_n 0, 1) := by decide +kernel
theorem dX11_areAlike_188 : decode cX11_areAlike 188 = .ok (.iconst 0, 1) := by decide +kernel
theorem dX11_areAlike_189 : decode cX11_areAlike 189 = .ok (.bipush 41, 2) := by decide +kernel
theorem dX11_areAlike_191 : decode cX11_areAlike 191 = .ok (.bipush 42, 2) := by decide +kernel
theorem dX11_areAlike_193 : decode cX11_areAlike 193 = .ok (.invokevirtual 257, 3) := by decide +kernel
theorem dX11_areAlike_196 : decode cX11_areAlike 196 = .ok (.aload_n 0, 1) := by decide +kernel
theorem dX11_areAlike_197 : decode cX11_areAlike 197 = .ok (.bipush 42, 2) := by decide +kernel
theorem dX11_areAlike_199 : decode cX11_areAlike 199 = .ok (.iconst 2, 1) := by decide +kernel
theorem dX11_areAlike_200 : decode cX11_areAlike 200 = .ok (.invokevirtual 193, 3) := by decide +kernel
theorem dX11_areAlike_203 : decode cX11_areAlike 203 = .ok (.aload_n 0, 1) := by decide +kernel
theorem dX11_areAlike_204 : decode cX11_areAlike 204 = .ok (.invokevirtual 451, 3) := by decide +kernel
theorem dX11_areAlike_207 : decode cX11_areAlike 207 = .ok (.ireturn, 1) := by decide +kernel
theorem dX11_areAlikeInLast_0 : decode cX11_areAlikeInLast 0 = .ok (.aload_n 0, 1) := by decide +kernel
theorem dX11_areAlikeInLast_1 : decode cX11_areAlikeInLast 1 = .ok (.iconst 2, 1) := by decide +kernel
theorem dX11_areAlikeInLast_2 : decode cX11_areAlikeInLast 2 = .ok (.iconst 2, 1) := by decide +kernel
theorem dX11_areAlikeInLast_3 : decode cX11_areAlikeInLast 3 = .ok (.iconst 1, 1) := by decide +kernel
theorem dX11_areAlikeInLast_4 : decode cX11_areAlikeInLast 4 = .ok (.invokevirtual 436, 3) := by decide +kernel
theorem dX11_areAlikeInLast_7 : decode cX11_areAlikeInLast 7 = .ok (.ifCond .ne 5, 3) := by decide +kernel
theorem dX11_areAlikeInLast_10 : decode cX11_areAlikeInLast 10 = .ok (.iconst 0, 1) := by decide +kernel
theorem dX11_areAlikeInLast_11 : decode cX11_areAlikeInLast 11 = .ok (.ireturn, 1) := by decide +kernel
theorem dX11_areAlikeInLast_12 : decode cX11_areAlikeInLast 12 = .ok (.aload_n 0, 1) := by decide +kernel
theorem dX11_areAlikeInLast_13 : decode cX11_areAlikeInLast 13 = .ok (.iconst 0, 1) := by decide +kernel
theorem dX11_areAlikeInLast_14 : decode cX11_areAlikeInLast 14 = .ok (.putfield 383, 3) := by decide +kernel
theorem dX11_areAlikeInLast_17 : decode cX11_areAlikeInLast 17 = .ok (.iconst 0, 1) := by decide +kernel
theorem dX11_areAlikeInLast_18 : decode cX11_areAlikeInLast 18 = .ok (.istore_n 1, 1) := by decide +kernel
theorem dX11_areAlikeInLast_19 : decode cX11_areAlikeInLast 19 = .ok (.iload_n 1, 1) := by decide +kernel
theorem dX11_areAlikeInLast_20 : decode cX11_areAlikeInLast 20 = .ok (.aload_n 0, 1) := by decide +kernel
theorem dX11_areAlikeInLast_21 : decode cX11_areAlikeInLast 21 = .ok (.getfield 448, 3) := by decide +kernel
theorem dX11_areAlikeInLast_24 : decode cX11_areAlikeInLast 24 = .ok (.if_icmp .ge 49, 3) := by decide +kernel
theorem dX11_areAlikeInLast_27 : decode cX11_areAlikeInLast 27 = .ok (.iconst 0, 1) := by decide +kernel
theorem dX11_areAlikeInLast_28 : decode cX11_areAlikeInLast 28 = .ok (.istore_n 2, 1) := by decide +kernel
theorem dX11_areAlikeInLast_29 : decode cX11_areAlikeInLast 29 = .ok (.iload_n 2, 1) := by decide +kernel
theorem dX11_areAlikeInLast_30 : decode cX11_areAlikeInLast 30 = .ok (.bipush 6, 2) := by decide +kernel
theorem dX11_areAlikeInLast_32 : decode cX11_areAlikeInLast 32 = .ok (.if_icmp .ge 27, 3) := by decide +kernel
theorem dX11_areAlikeInLast_35 : decode cX11_areAlikeInLast 35 = .ok (.aload_n 0, 1) := by decide +kernel
theorem dX11_areAlikeInLast_36 : decode cX11_areAlikeInLast 36 = .ok (.bipush 40, 2) := by decide +kernel
theorem dX11_areAlikeInLast_38 : decode cX11_areAlikeInLast 38 = .ok (.iload_n 2, 1) := by decide +kernel
theorem dX11_areAlikeInLast_39 : decode cX11_areAlikeInLast 39 = .ok (.aload_n 0, 1) := by decide +kernel
theorem dX11_areAlikeInLast_40 : decode cX11_areAlikeInLast 40 = .ok (.getfield 67, 3) := by decide +kernel
theorem dX11_areAlikeInLast_43 : decode cX11_areAlikeInLast 43 = .ok (.bipush 6, 2) := by decide +kernel
theorem dX11_areAlikeInLast_45 : decode cX11_areAlikeInLast 45 = .ok (.iload_n 1, 1) := by decide +kernel
theorem dX11_areAlikeInLast_46 : decode cX11_areAlikeInLast 46 = .ok (.imul, 1) := by decide +kernel
theorem dX11_areAlikeInLast_47 : decode cX11_areAlikeInLast 47 = .ok (.iload_n 2, 1) := by decide +kernel
theorem dX11_areAlikeInLast_48 : decode cX11_areAlikeInLast 48 = .ok (.iadd, 1) := by decide +kernel
theorem dX11_areAlikeInLast_49 : decode cX11_areAlikeInLast 49 = .ok (.laload, 1) := by decide +kernel
theorem dX11_areAlikeInLast_50 : decode cX11_areAlikeInLast 50 = .ok (.invokevirtual 162, 3) := by decide +kernel
theorem dX11_areAlikeInLast_53 : decode cX11_areAlikeInLast 53 = .ok (.iinc 2 1, 3) := by decide +kernel
theorem dX11_areAlikeInLast_56 : decode cX11_areAlikeInLast 56 = .ok (.goto (-27), 3) := by decide +kernel
theorem dX11_areAlikeInLast_59 : decode cX11_areAlikeInLast 59 = .ok (.aload_n 0, 1) := by decide +kernel
theorem dX11_areAlikeInLast_60 : decode cX11_areAlikeInLast 60 = .ok (.iconst 2, 1) := by decide +kernel
theorem dX11_areAlikeInLast_61 : decode cX11_areAlikeInLast 61 = .ok (.bipush 40, 2) := by decide +kernel
theorem dX11_areAlikeInLast_63 : decode cX11_areAlikeInLast 63 = .ok (.iconst 3, 1) := by decide +kernel
theorem dX11_areAlikeInLast_64 : decode cX11_areAlikeInLast 64 = .ok (.invokevirtual 442, 3) := by decide +kernel
theorem dX11_areAlikeInLast_67 : decode cX11_areAlikeInLast 67 = .ok (.iinc 1 1, 3) := by decide +kernel
theorem dX11_areAlikeInLast_70 : decode cX11_areAlikeInLast 70 = .ok (.goto (-51), 3) := by decide +kernel
theorem dX11_areAlikeInLast_73 : decode cX11_areAlikeInLast 73 = .ok (.iconst 0, 1) := by decide +kernel
theorem dX11_areAlikeInLast_74 : decode cX11_areAlikeInLast 74 = .ok (.istore_n 1, 1) := by decide +kernel
theorem dX11_areAlikeInLast_75 : decode cX11_areAlikeInLast 75 = .ok (.iload_n 1, 1) := by decide +kernel
theorem dX11_areAlikeInLast_76 : decode cX11_areAlikeInLast 76 = .ok (.aload_n 0, 1) := by decide +kernel
theorem dX11_areAlikeInLast_77 : decode cX11_areAlikeInLast 77 = .ok (.invokevirtual 88, 3) := by decide +kernel
theorem dX11_areAlikeInLast_80 : decode cX11_areAlikeInLast 80 = .ok (.if_icmp .ge 37, 3) := by decide +kernel
theorem dX11_areAlikeInLast_83 : decode cX11_areAlikeInLast 83 = .ok (.aload_n 0, 1) := by decide +kernel
theorem dX11_areAlikeInLast_84 : decode cX11_areAlikeInLast 84 = .ok (.iload_n 1, 1) := by decide +kernel
theorem dX11_areAlikeInLast_85 : decode cX11_areAlikeInLast 85 = .ok (.invokevirtual 92, 3) := by decide +kernel
theorem dX11_areAlikeInLast_88 : decode cX11_areAlikeInLast 88 = .ok (.iconst 2, 1) := by decide +kernel
theorem dX11_areAlikeInLast_89 : decode cX11_areAlikeInLast 89 = .ok (.if_icmp .eq 6, 3) := by decide +kernel
theorem dX11_areAlikeInLast_92 : decode cX11_areAlikeInLast 92 = .ok (.goto 19, 3) := by decide +kernel
theorem dX11_areAlikeInLast_95 : decode cX11_areAlikeInLast 95 = .ok (.aload_n 0, 1) := by decide +kernel
theorem dX11_areAlikeInLast_96 : decode cX11_areAlikeInLast 96 = .ok (.bipush 40, 2) := by decide +kernel
theorem dX11_areAlikeInLast_98 : decode cX11_areAlikeInLast 98 = .ok (.iload_n 1, 1) := by decide +kernel
theorem dX11_areAlikeInLast_99 : decode cX11_areAlikeInLast 99 = .ok (.lconst 1, 1) := by decide +kernel
theorem dX11_areAlikeInLast_100 : decode cX11_areAlikeInLast 100 = .ok (.invokevirtual 439, 3) := by decide +kernel
theorem dX11_areAlikeInLast_103 : decode cX11_areAlikeInLast 103 = .ok (.aload_n 0, 1) := by decide +kernel
theorem dX11_areAlikeInLast_104 : decode cX11_areAlikeInLast 104 = .ok (.iconst 2, 1) := by decide +kernel
theorem dX11_areAlikeInLast_105 : decode cX11_areAlikeInLast 105 = .ok (.bipush 40, 2) := by decide +kernel
theorem dX11_areAlikeInLast_107 : decode cX11_areAlikeInLast 107 = .ok (.iconst 3, 1) := by decide +kernel
theorem dX11_areAlikeInLast_108 : decode cX11_areAlikeInLast 108 = .ok (.invokevirtual 442, 3) := by decide +kernel
theorem dX11_areAlikeInLast_111 : decode cX11_areAlikeInLast 111 = .ok (.iinc 1 1, 3) := by decide +kernel
theorem dX11_areAlikeInLast_114 : decode cX11_areAlikeInLast 114 = .ok (.goto (-39), 3) := by decide +kernel
theorem dX11_areAlikeInLast_117 : decode cX11_areAlikeInLast 117 = .ok (.aload_n 0, 1) := by decide +kernel
theorem dX11_areAlikeInLast_118 : decode cX11_areAlikeInLast 118 = .ok (.iconst 2, 1) := by decide +kernel
theorem dX11_areAlikeInLast_119 : decode cX11_areAlikeInLast 119 = .ok (.iconst 1, 1) := by decide +kernel
theorem dX11_areAlikeInLast_120 : decode cX11_areAlikeInLast 120 = .ok (.iconst 3, 1) := by decide +kernel
theorem dX11_areAlikeInLast_121 : decode cX11_areAlikeInLast 121 = .ok (.invokevirtual 445, 3) := by decide +kernel
theorem dX11_areAlikeInLast_124 : decode cX11_areAlikeInLast 124 = .ok (.aload_n 0, 1) := by decide +kernel
theorem dX11_areAlikeInLast_125 : decode cX11_areAlikeInLast 125 = .ok (.invokevirtual 389, 3) := by decide +kernel
theorem dX11_areAlikeInLast_128 : decode cX11_areAlikeInLast 128 = .ok (.ireturn, 1) := by decide +kernel
theorem dX11_alike_0 : decode cX11_alike 0 = .ok (.aload_n 0, 1) := by decide +kernel
theorem dX11_alike_1 : decode cX11_alike 1 = .ok (.iconst 0, 1) := by decide +kernel
theorem dX11_alike_2 : decode cX11_alike 2 = .ok (.putfield 1, 3) := by decide +kernel
theorem dX11_alike_5 : decode cX11_alike 5 = .ok (.aload_n 0, 1) := by decide +kernel
theorem dX11_alike_6 : decode cX11_alike 6 = .ok (.iload_n 1, 1) := by decide +kernel
theorem dX11_alike_7 : decode cX11_alike 7 = .ok (.invokevirtual 232, 3) := by decide +kernel
theorem dX11_alike_10 : decode cX11_alike 10 = .ok (.ifCond .eq 18, 3) := by decide +kernel
theorem dX11_alike_13 : decode cX11_alike 13 = .ok (.aload_n 0, 1) := by decide +kernel
theorem dX11_alike_14 : decode cX11_alike 14 = .ok (.iload_n 2, 1) := by decide +kernel
theorem dX11_alike_15 : decode cX11_alike 15 = .ok (.invokevirtual 232, 3) := by decide +kernel
theorem dX11_alike_18 : decode cX11_alike 18 = .ok (.ifCond .eq 10, 3) := by decide +kernel
theorem dX11_alike_21 : decode cX11_alike 21 = .ok (.aload_n 0, 1) := by decide +kernel
theorem dX11_alike_22 : decode cX11_alike 22 = .ok (.invokevirtual 235, 3) := by decide +kernel
theorem dX11_alike_25 : decode cX11_alike 25 = .ok (.ifCond .ne 5, 3) := by decide +kernel
theorem dX11_alike_28 : decode cX11_alike 28 = .ok (.iconst (-1), 1) := by decide +kernel
theorem dX11_alike_29 : decode cX11_alike 29 = .ok (.ireturn, 1) := by decide +kernel
theorem dX11_alike_30 : decode cX11_alike 30 = .ok (.aload_n 0, 1) := by decide +kernel
theorem dX11_alike_31 : decode cX11_alike 31 = .ok (.iconst 0, 1) := by decide +kernel
theorem dX11_alike_32 : decode cX11_alike 32 = .ok (.iload_n 1, 1) := by decide +kernel
theorem dX11_alike_33 : decode cX11_alike 33 = .ok (.invokevirtual 241, 3) := by decide +kernel
theorem dX11_alike_36 : decode cX11_alike 36 = .ok (.aload_n 0, 1) := by decide +kernel
theorem dX11_alike_37 : decode cX11_alike 37 = .ok (.iconst 1, 1) := by decide +kernel
theorem dX11_alike_38 : decode cX11_alike 38 = .ok (.iload_n 2, 1) := by decide +kernel
theorem dX11_alike_39 : decode cX11_alike 39 = .ok (.invokevirtual 241, 3) := by decide +kernel
theorem dX11_alike_42 : decode cX11_alike 42 = .ok (.iconst 0, 1) := by decide +kernel
theorem dX11_alike_43 : decode cX11_alike 43 = .ok (.istore_n 3, 1) := by decide +kernel
theorem dX11_alike_44 : decode cX11_alike 44 = .ok (.iload_n 3, 1) := by decide +kernel
theorem dX11_alike_45 : decode cX11_alike 45 = .ok (.aload_n 0, 1) := by decide +kernel
theorem dX11_alike_46 : decode cX11_alike 46 = .ok (.invokevirtual 88, 3) := by decide +kernel
theorem dX11_alike_49 : decode cX11_alike 49 = .ok (.if_icmp .ge 50, 3) := by decide +kernel
theorem dX11_alike_52 : decode cX11_alike 52 = .ok (.aload_n 0, 1) := by decide +kernel
theorem dX11_alike_53 : decode cX11_alike 53 = .ok (.aload_n 0, 1) := by decide +kernel
theorem dX11_alike_54 : decode cX11_alike 54 = .ok (.iconst 0, 1) := by decide +kernel
theorem dX11_alike_55 : decode cX11_alike 55 = .ok (.iload_n 3, 1) := by decide +kernel
theorem dX11_alike_56 : decode cX11_alike 56 = .ok (.invokevirtual 166, 3) := by decide +kernel
theorem dX11_alike_59 : decode cX11_alike 59 = .ok (.ldc2_w 454, 3) := by decide +kernel
theorem dX11_alike_62 : decode cX11_alike 62 = .ok (.ldc2_w 456, 3) := by decide +kernel
theorem dX11_alike_65 : decode cX11_alike 65 = .ok (.invokevirtual 101, 3) := by decide +kernel
theorem dX11_alike_68 : decode cX11_alike 68 = .ok (.ifCond .eq 22, 3) := by decide +kernel
theorem dX11_alike_71 : decode cX11_alike 71 = .ok (.aload_n 0, 1) := by decide +kernel
theorem dX11_alike_72 : decode cX11_alike 72 = .ok (.aload_n 0, 1) := by decide +kernel
theorem dX11_alike_73 : decode cX11_alike 73 = .ok (.iconst 1, 1) := by decide +kernel
theorem dX11_alike_74 : decode cX11_alike 74 = .ok (.iload_n 3, 1) := by decide +kernel
theorem dX11_alike_75 : decode cX11_alike 75 = .ok (.invokevirtual 166, 3) := by decide +kernel
theorem dX11_alike_78 : decode cX11_alike 78 = .ok (.ldc2_w 454, 3) := by decide +kernel
theorem dX11_alike_81 : decode cX11_alike 81 = .ok (.ldc2_w 456, 3) := by decide +kernel
theorem dX11_alike_84 : decode cX11_alike 84 = .ok (.invokevirtual 101, 3) := by decide +kernel
theorem dX11_alike_87 : decode cX11_alike 87 = .ok (.ifCond .ne 6, 3) := by decide +kernel
theorem dX11_alike_90 : decode cX11_alike 90 = .ok (.bipush (-2), 2) := by decide +kernel
theorem dX11_alike_92 : decode cX11_alike 92 = .ok (.ireturn, 1) := by decide +kernel
theorem dX11_alike_93 : decode cX11_alike 93 = .ok (.iinc 3 1, 3) := by decide +kernel
theorem dX11_alike_96 : decode cX11_alike 96 = .ok (.goto (-52), 3) := by decide +kernel
theorem dX11_alike_99 : decode cX11_alike 99 = .ok (.aload_n 0, 1) := by decide +kernel
theorem dX11_alike_100 : decode cX11_alike 100 = .ok (.invokevirtual 458, 3) := by decide +kernel
theorem dX11_alike_103 : decode cX11_alike 103 = .ok (.ifCond .eq 7, 3) := by decide +kernel
theorem dX11_alike_106 : decode cX11_alike 106 = .ok (.iconst 1, 1) := by decide +kernel
theorem dX11_alike_107 : decode cX11_alike 107 = .ok (.goto 4, 3) := by decide +kernel
theorem dX11_alike_110 : decode cX11_alike 110 = .ok (.iconst 0, 1) := by decide +kernel
theorem dX11_alike_111 : decode cX11_alike 111 = .ok (.ireturn, 1) := by decide +kernel
theorem dX11_powers_0 : decode cX11_powers 0 = .ok (.aload_n 0, 1) := by decide +kernel
theorem dX11_powers_1 : decode cX11_powers 1 = .ok (.iconst 0, 1) := by decide +kernel
theorem dX11_powers_2 : decode cX11_powers 2 = .ok (.putfield 1, 3) := by decide +kernel
theorem dX11_powers_5 : decode cX11_powers 5 = .ok (.aload_n 0, 1) := by decide +kernel
theorem dX11_powers_6 : decode cX11_powers 6 = .ok (.iload_n 1, 1) := by decide +kernel
theorem dX11_powers_7 : decode cX11_powers 7 = .ok (.invokevirtual 232, 3) := by decide +kernel
theorem dX11_powers_10 : decode cX11_powers 10 = .ok (.ifCond .eq 38, 3) := by decide +kernel
theorem dX11_powers_13 : decode cX11_powers 13 = .ok (.aload_n 0, 1) := by decide +kernel
theorem dX11_powers_14 : decode cX11_powers 14 = .ok (.invokevirtual 235, 3) := by decide +kernel
theorem dX11_powers_17 : decode cX11_powers 17 = .ok (.ifCond .eq 31, 3) := by decide +kernel
theorem dX11_powers_20 : decode cX11_powers 20 = .ok (.aload_n 0, 1) := by decide +kernel
theorem dX11_powers_21 : decode cX11_powers 21 = .ok (.iload_n 2, 1) := by decide +kernel
theorem dX11_powers_22 : decode cX11_powers 22 = .ok (.i2l, 1) := by decide +kernel
theorem dX11_powers_23 : decode cX11_powers 23 = .ok (.lconst 1, 1) := by decide +kernel
theorem dX11_powers_24 : decode cX11_powers 24 = .ok (.aload_n 0, 1) := by decide +kernel
theorem dX11_powers_25 : decode cX11_powers 25 = .ok (.invokevirtual 88, 3) := by decide +kernel
theorem dX11_powers_28 : decode cX11_powers 28 = .ok (.i2l, 1) := by decide +kernel
theorem dX11_powers_29 : decode cX11_powers 29 = .ok (.invokevirtual 101, 3) := by decide +kernel
theorem dX11_powers_32 : decode cX11_powers 32 = .ok (.ifCond .eq 16, 3) := by decide +kernel
theorem dX11_powers_35 : decode cX11_powers 35 = .ok (.aload_n 0, 1) := by decide +kernel
theorem dX11_powers_36 : decode cX11_powers 36 = .ok (.iload_n 3, 1) := by decide +kernel
theorem dX11_powers_37 : decode cX11_powers 37 = .ok (.i2l, 1) := by decide +kernel
theorem dX11_powers_38 : decode cX11_powers 38 = .ok (.lconst 0, 1) := by decide +kernel
theorem dX11_powers_39 : decode cX11_powers 39 = .ok (.ldc2_w 118, 3) := by decide +kernel
theorem dX11_powers_42 : decode cX11_powers 42 = .ok (.invokevirtual 101, 3) := by decide +kernel
theorem dX11_powers_45 : decode cX11_powers 45 = .ok (.ifCond .ne 7, 3) := by decide +kernel
theorem dX11_powers_48 : decode cX11_powers 48 = .ok (.ldc2_w 461, 3) := by decide +kernel
theorem dX11_powers_51 : decode cX11_powers 51 = .ok (.lreturn, 1) := by decide +kernel
theorem dX11_powers_52 : decode cX11_powers 52 = .ok (.aload_n 0, 1) := by decide +kernel
theorem dX11_powers_53 : decode cX11_powers 53 = .ok (.iconst 0, 1) := by decide +kernel
theorem dX11_powers_54 : decode cX11_powers 54 = .ok (.iload_n 1, 1) := by decide +kernel
theorem dX11_powers_55 : decode cX11_powers 55 = .ok (.invokevirtual 241, 3) := by decide +kernel
theorem dX11_powers_58 : decode cX11_powers 58 = .ok (.lconst 0, 1) := by decide +kernel
theorem dX11_powers_59 : decode cX11_powers 59 = .ok (.lstore 4, 2) := by decide +kernel
theorem dX11_powers_61 : decode cX11_powers 61 = .ok (.iconst 0, 1) := by decide +kernel
theorem dX11_powers_62 : decode cX11_powers 62 = .ok (.istore 6, 2) := by decide +kernel
theorem dX11_powers_64 : decode cX11_powers 64 = .ok (.iload 6, 2) := by decide +kernel
theorem dX11_powers_66 : decode cX11_powers 66 = .ok (.iload_n 3, 1) := by decide +kernel
theorem dX11_powers_67 : decode cX11_powers 67 = .ok (.if_icmp .gt 55, 3) := by decide +kernel
theorem dX11_powers_70 : decode cX11_powers 70 = .ok (.aload_n 0, 1) := by decide +kernel
theorem dX11_powers_71 : decode cX11_powers 71 = .ok (.iconst 0, 1) := by decide +kernel
theorem dX11_powers_72 : decode cX11_powers 72 = .ok (.iconst 1, 1) := by decide +kernel
theorem dX11_powers_73 : decode cX11_powers 73 = .ok (.iload 6, 2) := by decide +kernel
theorem dX11_powers_75 : decode cX11_powers 75 = .ok (.invokevirtual 251, 3) := by decide +kernel
theorem dX11_powers_78 : decode cX11_powers 78 = .ok (.lload 4, 2) := by decide +kernel
theorem dX11_powers_80 : decode cX11_powers 80 = .ok (.iload_n 3, 1) := by decide +kernel
theorem dX11_powers_81 : decode cX11_powers 81 = .ok (.iload 6, 2) := by decide +kernel
theorem dX11_powers_83 : decode cX11_powers 83 = .ok (.isub, 1) := by decide +kernel
theorem dX11_powers_84 : decode cX11_powers 84 = .ok (.iconst 2, 1) := by decide +kernel
theorem dX11_powers_85 : decode cX11_powers 85 = .ok (.irem, 1) := by decide +kernel
theorem dX11_powers_86 : decode cX11_powers 86 = .ok (.ifCond .ne 7, 3) := by decide +kernel
theorem dX11_powers_89 : decode cX11_powers 89 = .ok (.lconst 1, 1) := by decide +kernel
theorem dX11_powers_90 : decode cX11_powers 90 = .ok (.goto 6, 3) := by decide +kernel
theorem dX11_powers_93 : decode cX11_powers 93 = .ok (.ldc2_w 221, 3) := by decide +kernel
theorem dX11_powers_96 : decode cX11_powers 96 = .ok (.aload_n 0, 1) := by decide +kernel
theorem dX11_powers_97 : decode cX11_powers 97 = .ok (.iload_n 3, 1) := by decide +kernel
theorem dX11_powers_98 : decode cX11_powers 98 = .ok (.iload 6, 2) := by decide +kernel
theorem dX11_powers_100 : decode cX11_powers 100 = .ok (.invokevirtual 218, 3) := by decide +kernel
theorem dX11_powers_103 : decode cX11_powers 103 = .ok (.lmul, 1) := by decide +kernel
theorem dX11_powers_104 : decode cX11_powers 104 = .ok (.aload_n 0, 1) := by decide +kernel
theorem dX11_powers_105 : decode cX11_powers 105 = .ok (.iconst 1, 1) := by decide +kernel
theorem dX11_powers_106 : decode cX11_powers 106 = .ok (.iload_n 2, 1) := by decide +kernel
theorem dX11_powers_107 : decode cX11_powers 107 = .ok (.iconst 1, 1) := by decide +kernel
theorem dX11_powers_108 : decode cX11_powers 108 = .ok (.isub, 1) := by decide +kernel
theorem dX11_powers_109 : decode cX11_powers 109 = .ok (.invokevirtual 166, 3) := by decide +kernel
theorem dX11_powers_112 : decode cX11_powers 112 = .ok (.lmul, 1) := by decide +kernel
theorem dX11_powers_113 : decode cX11_powers 113 = .ok (.ladd, 1) := by decide +kernel
theorem dX11_powers_114 : decode cX11_powers 114 = .ok (.lstore 4, 2) := by decide +kernel
theorem dX11_powers_116 : decode cX11_powers 116 = .ok (.iinc 6 1, 3) := by decide +kernel
theorem dX11_powers_119 : decode cX11_powers 119 = .ok (.goto (-55), 3) := by decide +kernel
theorem dX11_powers_122 : decode cX11_powers 122 = .ok (.lload 4, 2) := by decide +kernel
theorem dX11_powers_124 : decode cX11_powers 124 = .ok (.lreturn, 1) := by decide +kernel
theorem dX11_associates_0 : decode cX11_associates 0 = .ok (.aload_n 0, 1) := by decide +kernel
theorem dX11_associates_1 : decode cX11_associates 1 = .ok (.iconst 0, 1) := by decide +kernel
theorem dX11_associates_2 : decode cX11_associates 2 = .ok (.putfield 1, 3) := by decide +kernel
theorem dX11_associates_5 : decode cX11_associates 5 = .ok (.aload_n 0, 1) := by decide +kernel
theorem dX11_associates_6 : decode cX11_associates 6 = .ok (.iload_n 1, 1) := by decide +kernel
theorem dX11_associates_7 : decode cX11_associates 7 = .ok (.invokevirtual 232, 3) := by decide +kernel
theorem dX11_associates_10 : decode cX11_associates 10 = .ok (.ifCond .eq 26, 3) := by decide +kernel
theorem dX11_associates_13 : decode cX11_associates 13 = .ok (.aload_n 0, 1) := by decide +kernel
theorem dX11_associates_14 : decode cX11_associates 14 = .ok (.iload_n 2, 1) := by decide +kernel
theorem dX11_associates_15 : decode cX11_associates 15 = .ok (.invokevirtual 232, 3) := by decide +kernel
theorem dX11_associates_18 : decode cX11_associates 18 = .ok (.ifCond .eq 18, 3) := by decide +kernel
theorem dX11_associates_21 : decode cX11_associates 21 = .ok (.aload_n 0, 1) := by decide +kernel
theorem dX11_associates_22 : decode cX11_associates 22 = .ok (.iload_n 3, 1) := by decide +kernel
theorem dX11_associates_23 : decode cX11_associates 23 = .ok (.invokevirtual 232, 3) := by decide +kernel
theorem dX11_associates_26 : decode cX11_associates 26 = .ok (.ifCond .eq 10, 3) := by decide +kernel
theorem dX11_associates_29 : decode cX11_associates 29 = .ok (.aload_n 0, 1) := by decide +kernel
theorem dX11_associates_30 : decode cX11_associates 30 = .ok (.invokevirtual 235, 3) := by decide +kernel
theorem dX11_associates_33 : decode cX11_associates 33 = .ok (.ifCond .ne 5, 3) := by decide +kernel
theorem dX11_associates_36 : decode cX11_associates 36 = .ok (.iconst (-1), 1) := by decide +kernel
theorem dX11_associates_37 : decode cX11_associates 37 = .ok (.ireturn, 1) := by decide +kernel
theorem dX11_associates_38 : decode cX11_associates 38 = .ok (.aload_n 0, 1) := by decide +kernel
theorem dX11_associates_39 : decode cX11_associates 39 = .ok (.iconst 0, 1) := by decide +kernel
theorem dX11_associates_40 : decode cX11_associates 40 = .ok (.iload_n 1, 1) := by decide +kernel
theorem dX11_associates_41 : decode cX11_associates 41 = .ok (.invokevirtual 241, 3) := by decide +kernel
theorem dX11_associates_44 : decode cX11_associates 44 = .ok (.aload_n 0, 1) := by decide +kernel
theorem dX11_associates_45 : decode cX11_associates 45 = .ok (.iconst 1, 1) := by decide +kernel
theorem dX11_associates_46 : decode cX11_associates 46 = .ok (.iload_n 2, 1) := by decide +kernel
theorem dX11_associates_47 : decode cX11_associates 47 = .ok (.invokevirtual 241, 3) := by decide +kernel
theorem dX11_associates_50 : decode cX11_associates 50 = .ok (.aload_n 0, 1) := by decide +kernel
theorem dX11_associates_51 : decode cX11_associates 51 = .ok (.iconst 2, 1) := by decide +kernel
theorem dX11_associates_52 : decode cX11_associates 52 = .ok (.iload_n 3, 1) := by decide +kernel
theorem dX11_associates_53 : decode cX11_associates 53 = .ok (.invokevirtual 241, 3) := by decide +kernel
theorem dX11_associates_56 : decode cX11_associates 56 = .ok (.aload_n 0, 1) := by decide +kernel
theorem dX11_associates_57 : decode cX11_associates 57 = .ok (.iconst 0, 1) := by decide +kernel
theorem dX11_associates_58 : decode cX11_associates 58 = .ok (.iconst 3, 1) := by decide +kernel
theorem dX11_associates_59 : decode cX11_associates 59 = .ok (.invokevirtual 193, 3) := by decide +kernel
theorem dX11_associates_62 : decode cX11_associates 62 = .ok (.aload_n 0, 1) := by decide +kernel
theorem dX11_associates_63 : decode cX11_associates 63 = .ok (.iconst 3, 1) := by decide +kernel
theorem dX11_associates_64 : decode cX11_associates 64 = .ok (.iconst 1, 1) := by decide +kernel
theorem dX11_associates_65 : decode cX11_associates 65 = .ok (.invokevirtual 197, 3) := by decide +kernel
theorem dX11_associates_68 : decode cX11_associates 68 = .ok (.aload_n 0, 1) := by decide +kernel
theorem dX11_associates_69 : decode cX11_associates 69 = .ok (.iconst 3, 1) := by decide +kernel
theorem dX11_associates_70 : decode cX11_associates 70 = .ok (.iconst 2, 1) := by decide +kernel
theorem dX11_associates_71 : decode cX11_associates 71 = .ok (.invokevirtual 197, 3) := by decide +kernel
theorem dX11_associates_74 : decode cX11_associates 74 = .ok (.aload_n 0, 1) := by decide +kernel
theorem dX11_associates_75 : decode cX11_associates 75 = .ok (.iconst 1, 1) := by decide +kernel
theorem dX11_associates_76 : decode cX11_associates 76 = .ok (.iconst 4, 1) := by decide +kernel
theorem dX11_associates_77 : decode cX11_associates 77 = .ok (.invokevirtual 193, 3) := by decide +kernel
theorem dX11_associates_80 : decode cX11_associates 80 = .ok (.aload_n 0, 1) := by decide +kernel
theorem dX11_associates_81 : decode cX11_associates 81 = .ok (.iconst 4, 1) := by decide +kernel
theorem dX11_associates_82 : decode cX11_associates 82 = .ok (.iconst 2, 1) := by decide +kernel
theorem dX11_associates_83 : decode cX11_associates 83 = .ok (.invokevirtual 197, 3) := by decide +kernel
theorem dX11_associates_86 : decode cX11_associates 86 = .ok (.aload_n 0, 1) := by decide +kernel
theorem dX11_associates_87 : decode cX11_associates 87 = .ok (.iconst 0, 1) := by decide +kernel
theorem dX11_associates_88 : decode cX11_associates 88 = .ok (.iconst 4, 1) := by decide +kernel
theorem dX11_associates_89 : decode cX11_associates 89 = .ok (.invokevirtual 197, 3) := by decide +kernel
theorem dX11_associates_92 : decode cX11_associates 92 = .ok (.aload_n 0, 1) := by decide +kernel
theorem dX11_associates_93 : decode cX11_associates 93 = .ok (.iconst 0, 1) := by decide +kernel
theorem dX11_associates_94 : decode cX11_associates 94 = .ok (.iconst 3, 1) := by decide +kernel
theorem dX11_associates_95 : decode cX11_associates 95 = .ok (.invokevirtual 266, 3) := by decide +kernel
theorem dX11_associates_98 : decode cX11_associates 98 = .ok (.ifCond .eq 7, 3) := by decide +kernel
theorem dX11_associates_101 : decode cX11_associates 101 = .ok (.iconst 1, 1) := by decide +kernel
theorem dX11_associates_102 : decode cX11_associates 102 = .ok (.goto 4, 3) := by decide +kernel
theorem dX11_associates_105 : decode cX11_associates 105 = .ok (.iconst 0, 1) := by decide +kernel
theorem dX11_associates_106 : decode cX11_associates 106 = .ok (.ireturn, 1) := by decide +kernel
theorem dX11_image_0 : decode cX11_image 0 = .ok (.aload_n 0, 1) := by decide +kernel
theorem dX11_image_1 : decode cX11_image 1 = .ok (.iconst 0, 1) := by decide +kernel
theorem dX11_image_2 : decode cX11_image 2 = .ok (.putfield 1, 3) := by decide +kernel
theorem dX11_image_5 : decode cX11_image 5 = .ok (.iload_n 1, 1) := by decide +kernel
theorem dX11_image_6 : decode cX11_image 6 = .ok (.ifCond .ne 12, 3) := by decide +kernel
theorem dX11_image_9 : decode cX11_image 9 = .ok (.aload_n 0, 1) := by decide +kernel
theorem dX11_image_10 : decode cX11_image 10 = .ok (.getfield 463, 3) := by decide +kernel
theorem dX11_image_13 : decode cX11_image 13 = .ok (.ifCond .ne 5, 3) := by decide +kernel
theorem dX11_image_16 : decode cX11_image 16 = .ok (.iconst 0, 1) := by decide +kernel
theorem dX11_image_17 : decode cX11_image 17 = .ok (.ireturn, 1) := by decide +kernel
theorem dX11_image_18 : decode cX11_image 18 = .ok (.aload_n 0, 1) := by decide +kernel
theorem dX11_image_19 : decode cX11_image 19 = .ok (.iconst 1, 1) := by decide +kernel
theorem dX11_image_20 : decode cX11_image 20 = .ok (.putfield 463, 3) := by decide +kernel
theorem dX11_image_23 : decode cX11_image 23 = .ok (.iload_n 1, 1) := by decide +kernel
theorem dX11_image_24 : decode cX11_image 24 = .ok (.ifCond .eq 86, 3) := by decide +kernel
theorem dX11_image_27 : decode cX11_image 27 = .ok (.iconst 0, 1) := by decide +kernel
theorem dX11_image_28 : decode cX11_image 28 = .ok (.istore_n 2, 1) := by decide +kernel
theorem dX11_image_29 : decode cX11_image 29 = .ok (.iload_n 2, 1) := by decide +kernel
theorem dX11_image_30 : decode cX11_image 30 = .ok (.sipush 283, 3) := by decide +kernel
theorem dX11_image_33 : decode cX11_image 33 = .ok (.if_icmp .ge 21, 3) := by decide +kernel
theorem dX11_image_36 : decode cX11_image 36 = .ok (.aload_n 0, 1) := by decide +kernel
theorem dX11_image_37 : decode cX11_image 37 = .ok (.getfield 70, 3) := by decide +kernel
theorem dX11_image_40 : decode cX11_image 40 = .ok (.iload_n 2, 1) := by decide +kernel
theorem dX11_image_41 : decode cX11_image 41 = .ok (.aload_n 0, 1) := by decide +kernel
theorem dX11_image_42 : decode cX11_image 42 = .ok (.getfield 13, 3) := by decide +kernel
theorem dX11_image_45 : decode cX11_image 45 = .ok (.iload_n 2, 1) := by decide +kernel
theorem dX11_image_46 : decode cX11_image 46 = .ok (.iaload, 1) := by decide +kernel
theorem dX11_image_47 : decode cX11_image 47 = .ok (.iastore, 1) := by decide +kernel
theorem dX11_image_48 : decode cX11_image 48 = .ok (.iinc 2 1, 3) := by decide +kernel
theorem dX11_image_51 : decode cX11_image 51 = .ok (.goto (-22), 3) := by decide +kernel
theorem dX11_image_54 : decode cX11_image 54 = .ok (.iconst 0, 1) := by decide +kernel
theorem dX11_image_55 : decode cX11_image 55 = .ok (.istore_n 2, 1) := by decide +kernel
theorem dX11_image_56 : decode cX11_image 56 = .ok (.iload_n 2, 1) := by decide +kernel
theorem dX11_image_57 : decode cX11_image 57 = .ok (.bipush 6, 2) := by decide +kernel
theorem dX11_image_59 : decode cX11_image 59 = .ok (.if_icmp .ge 25, 3) := by decide +kernel
theorem dX11_image_62 : decode cX11_image 62 = .ok (.aload_n 0, 1) := by decide +kernel
theorem dX11_image_63 : decode cX11_image 63 = .ok (.getfield 70, 3) := by decide +kernel
theorem dX11_image_66 : decode cX11_image 66 = .ok (.sipush 283, 3) := by decide +kernel
theorem dX11_image_69 : decode cX11_image 69 = .ok (.iload_n 2, 1) := by decide +kernel
theorem dX11_image_70 : decode cX11_image 70 = .ok (.iadd, 1) := by decide +kernel
theorem dX11_image_71 : decode cX11_image 71 = .ok (.aload_n 0, 1) := by decide +kernel
theorem dX11_image_72 : decode cX11_image 72 = .ok (.getfield 55, 3) := by decide +kernel
theorem dX11_image_75 : decode cX11_image 75 = .ok (.iload_n 2, 1) := by decide +kernel
theorem dX11_image_76 : decode cX11_image 76 = .ok (.iaload, 1) := by decide +kernel
theorem dX11_image_77 : decode cX11_image 77 = .ok (.iastore, 1) := by decide +kernel
theorem dX11_image_78 : decode cX11_image 78 = .ok (.iinc 2 1, 3) := by decide +kernel
theorem dX11_image_81 : decode cX11_image 81 = .ok (.goto (-25), 3) := by decide +kernel
theorem dX11_image_84 : decode cX11_image 84 = .ok (.aload_n 0, 1) := by decide +kernel
theorem dX11_image_85 : decode cX11_image 85 = .ok (.getfield 70, 3) := by decide +kernel
theorem dX11_image_88 : decode cX11_image 88 = .ok (.sipush 289, 3) := by decide +kernel
theorem dX11_image_91 : decode cX11_image 91 = .ok (.aload_n 0, 1) := by decide +kernel
theorem dX11_image_92 : decode cX11_image 92 = .ok (.getfield 334, 3) := by decide +kernel
theorem dX11_image_95 : decode cX11_image 95 = .ok (.iastore, 1) := by decide +kernel
theorem dX11_image_96 : decode cX11_image 96 = .ok (.aload_n 0, 1) := by decide +kernel
theorem dX11_image_97 : decode cX11_image 97 = .ok (.getfield 70, 3) := by decide +kernel
theorem dX11_image_100 : decode cX11_image 100 = .ok (.sipush 290, 3) := by decide +kernel
theorem dX11_image_103 : decode cX11_image 103 = .ok (.aload_n 0, 1) := by decide +kernel
theorem dX11_image_104 : decode cX11_image 104 = .ok (.getfield 229, 3) := by decide +kernel
theorem dX11_image_107 : decode cX11_image 107 = .ok (.iastore, 1) := by decide +kernel
theorem dX11_image_108 : decode cX11_image 108 = .ok (.iconst 1, 1) := by decide +kernel
theorem dX11_image_109 : decode cX11_image 109 = .ok (.ireturn, 1) := by decide +kernel
theorem dX11_image_110 : decode cX11_image 110 = .ok (.iconst 0, 1) := by decide +kernel
theorem dX11_image_111 : decode cX11_image 111 = .ok (.istore_n 2, 1) := by decide +kernel
theorem dX11_image_112 : decode cX11_image 112 = .ok (.iload_n 2, 1) := by decide +kernel
theorem dX11_image_113 : decode cX11_image 113 = .ok (.sipush 283, 3) := by decide +kernel
theorem dX11_image_116 : decode cX11_image 116 = .ok (.if_icmp .ge 21, 3) := by decide +kernel
theorem dX11_image_119 : decode cX11_image 119 = .ok (.aload_n 0, 1) := by decide +kernel
theorem dX11_image_120 : decode cX11_image 120 = .ok (.getfield 13, 3) := by decide +kernel
theorem dX11_image_123 : decode cX11_image 123 = .ok (.iload_n 2, 1) := by decide +kernel
theorem dX11_image_124 : decode cX11_image 124 = .ok (.aload_n 0, 1) := by decide +kernel
theorem dX11_image_125 : decode cX11_image 125 = .ok (.getfield 70, 3) := by decide +kernel
theorem dX11_image_128 : decode cX11_image 128 = .ok (.iload_n 2, 1) := by decide +kernel
theorem dX11_image_129 : decode cX11_image 129 = .ok (.iaload, 1) := by decide +kernel
theorem dX11_image_130 : decode cX11_image 130 = .ok (.iastore, 1) := by decide +kernel
theorem dX11_image_131 : decode cX11_image 131 = .ok (.iinc 2 1, 3) := by decide +kernel
theorem dX11_image_134 : decode cX11_image 134 = .ok (.goto (-22), 3) := by decide +kernel
theorem dX11_image_137 : decode cX11_image 137 = .ok (.iconst 0, 1) := by decide +kernel
theorem dX11_image_138 : decode cX11_image 138 = .ok (.istore_n 2, 1) := by decide +kernel
theorem dX11_image_139 : decode cX11_image 139 = .ok (.iload_n 2, 1) := by decide +kernel
theorem dX11_image_140 : decode cX11_image 140 = .ok (.bipush 6, 2) := by decide +kernel
theorem dX11_image_142 : decode cX11_image 142 = .ok (.if_icmp .ge 25, 3) := by decide +kernel
theorem dX11_image_145 : decode cX11_image 145 = .ok (.aload_n 0, 1) := by decide +kernel
theorem dX11_image_146 : decode cX11_image 146 = .ok (.getfield 55, 3) := by decide +kernel
theorem dX11_image_149 : decode cX11_image 149 = .ok (.iload_n 2, 1) := by decide +kernel
theorem dX11_image_150 : decode cX11_image 150 = .ok (.aload_n 0, 1) := by decide +kernel
theorem dX11_image_151 : decode cX11_image 151 = .ok (.getfield 70, 3) := by decide +kernel
theorem dX11_image_154 : decode cX11_image 154 = .ok (.sipush 283, 3) := by decide +kernel
theorem dX11_image_157 : decode cX11_image 157 = .ok (.iload_n 2, 1) := by decide +kernel
theorem dX11_image_158 : decode cX11_image 158 = .ok (.iadd, 1) := by decide +kernel
theorem dX11_image_159 : decode cX11_image 159 = .ok (.iaload, 1) := by decide +kernel
theorem dX11_image_160 : decode cX11_image 160 = .ok (.iastore, 1) := by decide +kernel
theorem dX11_image_161 : decode cX11_image 161 = .ok (.iinc 2 1, 3) := by decide +kernel
theorem dX11_image_164 : decode cX11_image 164 = .ok (.goto (-25), 3) := by decide +kernel
theorem dX11_image_167 : decode cX11_image 167 = .ok (.aload_n 0, 1) := by decide +kernel
theorem dX11_image_168 : decode cX11_image 168 = .ok (.aload_n 0, 1) := by decide +kernel
theorem dX11_image_169 : decode cX11_image 169 = .ok (.getfield 70, 3) := by decide +kernel
theorem dX11_image_172 : decode cX11_image 172 = .ok (.sipush 289, 3) := by decide +kernel
theorem dX11_image_175 : decode cX11_image 175 = .ok (.iaload, 1) := by decide +kernel
theorem dX11_image_176 : decode cX11_image 176 = .ok (.putfield 334, 3) := by decide +kernel
theorem dX11_image_179 : decode cX11_image 179 = .ok (.aload_n 0, 1) := by decide +kernel
theorem dX11_image_180 : decode cX11_image 180 = .ok (.aload_n 0, 1) := by decide +kernel
theorem dX11_image_181 : decode cX11_image 181 = .ok (.getfield 70, 3) := by decide +kernel
theorem dX11_image_184 : decode cX11_image 184 = .ok (.sipush 290, 3) := by decide +kernel
theorem dX11_image_187 : decode cX11_image 187 = .ok (.iaload, 1) := by decide +kernel
theorem dX11_image_188 : decode cX11_image 188 = .ok (.putfield 229, 3) := by decide +kernel
theorem dX11_image_191 : decode cX11_image 191 = .ok (.aload_n 0, 1) := by decide +kernel
theorem dX11_image_192 : decode cX11_image 192 = .ok (.iconst 0, 1) := by decide +kernel
theorem dX11_image_193 : decode cX11_image 193 = .ok (.putfield 96, 3) := by decide +kernel
theorem dX11_image_196 : decode cX11_image 196 = .ok (.aload_n 0, 1) := by decide +kernel
theorem dX11_image_197 : decode cX11_image 197 = .ok (.iconst 0, 1) := by decide +kernel
theorem dX11_image_198 : decode cX11_image 198 = .ok (.putfield 84, 3) := by decide +kernel
theorem dX11_image_201 : decode cX11_image 201 = .ok (.iconst 1, 1) := by decide +kernel
theorem dX11_image_202 : decode cX11_image 202 = .ok (.ireturn, 1) := by decide +kernel
theorem dX11_tails_0 : decode cX11_tails 0 = .ok (.iconst 0, 1) := by decide +kernel
theorem dX11_tails_1 : decode cX11_tails 1 = .ok (.istore_n 1, 1) := by decide +kernel
theorem dX11_tails_2 : decode cX11_tails 2 = .ok (.bipush 7, 2) := by decide +kernel
theorem dX11_tails_4 : decode cX11_tails 4 = .ok (.istore_n 2, 1) := by decide +kernel
theorem dX11_tails_5 : decode cX11_tails 5 = .ok (.iload_n 2, 1) := by decide +kernel
theorem dX11_tails_6 : decode cX11_tails 6 = .ok (.sipush 223, 3) := by decide +kernel
theorem dX11_tails_9 : decode cX11_tails 9 = .ok (.if_icmp .ge 22, 3) := by decide +kernel
theorem dX11_tails_12 : decode cX11_tails 12 = .ok (.aload_n 0, 1) := by decide +kernel
theorem dX11_tails_13 : decode cX11_tails 13 = .ok (.getfield 13, 3) := by decide +kernel
theorem dX11_tails_16 : decode cX11_tails 16 = .ok (.iload_n 2, 1) := by decide +kernel
theorem dX11_tails_17 : decode cX11_tails 17 = .ok (.iaload, 1) := by decide +kernel
theorem dX11_tails_18 : decode cX11_tails 18 = .ok (.ifCond .le 7, 3) := by decide +kernel
theorem dX11_tails_21 : decode cX11_tails 21 = .ok (.iload_n 1, 1) := by decide +kernel
theorem dX11_tails_22 : decode cX11_tails 22 = .ok (.iconst 1, 1) := by decide +kernel
theorem dX11_tails_23 : decode cX11_tails 23 = .ok (.iadd, 1) := by decide +kernel
theorem dX11_tails_24 : decode cX11_tails 24 = .ok (.istore_n 1, 1) := by decide +kernel
theorem dX11_tails_25 : decode cX11_tails 25 = .ok (.iinc 2 1, 3) := by decide +kernel
theorem dX11_tails_28 : decode cX11_tails 28 = .ok (.goto (-23), 3) := by decide +kernel
theorem dX11_tails_31 : decode cX11_tails 31 = .ok (.iload_n 1, 1) := by decide +kernel
theorem dX11_tails_32 : decode cX11_tails 32 = .ok (.ireturn, 1) := by decide +kernel
theorem dX11_termsOfAll_0 : decode cX11_termsOfAll 0 = .ok (.aload_n 0, 1) := by decide +kernel
theorem dX11_termsOfAll_1 : decode cX11_termsOfAll 1 = .ok (.invokevirtual 159, 3) := by decide +kernel
theorem dX11_termsOfAll_4 : decode cX11_termsOfAll 4 = .ok (.iconst 0, 1) := by decide +kernel
theorem dX11_termsOfAll_5 : decode cX11_termsOfAll 5 = .ok (.istore_n 1, 1) := by decide +kernel
theorem dX11_termsOfAll_6 : decode cX11_termsOfAll 6 = .ok (.iconst 0, 1) := by decide +kernel
theorem dX11_termsOfAll_7 : decode cX11_termsOfAll 7 = .ok (.istore_n 2, 1) := by decide +kernel
theorem dX11_termsOfAll_8 : decode cX11_termsOfAll 8 = .ok (.iload_n 2, 1) := by decide +kernel
theorem dX11_termsOfAll_9 : decode cX11_termsOfAll 9 = .ok (.bipush 6, 2) := by decide +kernel
theorem dX11_termsOfAll_11 : decode cX11_termsOfAll 11 = .ok (.if_icmp .ge 18, 3) := by decide +kernel
theorem dX11_termsOfAll_14 : decode cX11_termsOfAll 14 = .ok (.iload_n 1, 1) := by decide +kernel
theorem dX11_termsOfAll_15 : decode cX11_termsOfAll 15 = .ok (.aload_n 0, 1) := by decide +kernel
theorem dX11_termsOfAll_16 : decode cX11_termsOfAll 16 = .ok (.getfield 26, 3) := by decide +kernel
theorem dX11_termsOfAll_19 : decode cX11_termsOfAll 19 = .ok (.iload_n 2, 1) := by decide +kernel
theorem dX11_termsOfAll_20 : decode cX11_termsOfAll 20 = .ok (.iaload, 1) := by decide +kernel
theorem dX11_termsOfAll_21 : decode cX11_termsOfAll 21 = .ok (.iadd, 1) := by decide +kernel
theorem dX11_termsOfAll_22 : decode cX11_termsOfAll 22 = .ok (.istore_n 1, 1) := by decide +kernel
theorem dX11_termsOfAll_23 : decode cX11_termsOfAll 23 = .ok (.iinc 2 1, 3) := by decide +kernel
theorem dX11_termsOfAll_26 : decode cX11_termsOfAll 26 = .ok (.goto (-18), 3) := by decide +kernel
theorem dX11_termsOfAll_29 : decode cX11_termsOfAll 29 = .ok (.iload_n 1, 1) := by decide +kernel
theorem dX11_termsOfAll_30 : decode cX11_termsOfAll 30 = .ok (.ireturn, 1) := by decide +kernel
theorem dX11_notOnes_0 : decode cX11_notOnes 0 = .ok (.iconst 0, 1) := by decide +kernel
theorem dX11_notOnes_1 : decode cX11_notOnes 1 = .ok (.istore_n 1, 1) := by decide +kernel
theorem dX11_notOnes_2 : decode cX11_notOnes 2 = .ok (.iconst 0, 1) := by decide +kernel
theorem dX11_notOnes_3 : decode cX11_notOnes 3 = .ok (.istore_n 2, 1) := by decide +kernel
theorem dX11_notOnes_4 : decode cX11_notOnes 4 = .ok (.iload_n 2, 1) := by decide +kernel
theorem dX11_notOnes_5 : decode cX11_notOnes 5 = .ok (.bipush 10, 2) := by decide +kernel
theorem dX11_notOnes_7 : decode cX11_notOnes 7 = .ok (.if_icmp .ge 29, 3) := by decide +kernel
theorem dX11_notOnes_10 : decode cX11_notOnes 10 = .ok (.aload_n 0, 1) := by decide +kernel
theorem dX11_notOnes_11 : decode cX11_notOnes 11 = .ok (.iconst 0, 1) := by decide +kernel
theorem dX11_notOnes_12 : decode cX11_notOnes 12 = .ok (.iload_n 2, 1) := by decide +kernel
theorem dX11_notOnes_13 : decode cX11_notOnes 13 = .ok (.invokevirtual 241, 3) := by decide +kernel
theorem dX11_notOnes_16 : decode cX11_notOnes 16 = .ok (.aload_n 0, 1) := by decide +kernel
theorem dX11_notOnes_17 : decode cX11_notOnes 17 = .ok (.iconst 0, 1) := by decide +kernel
theorem dX11_notOnes_18 : decode cX11_notOnes 18 = .ok (.invokevirtual 337, 3) := by decide +kernel
theorem dX11_notOnes_21 : decode cX11_notOnes 21 = .ok (.ifCond .ne 9, 3) := by decide +kernel
theorem dX11_notOnes_24 : decode cX11_notOnes 24 = .ok (.iload_n 1, 1) := by decide +kernel
theorem dX11_notOnes_25 : decode cX11_notOnes 25 = .ok (.iconst 1, 1) := by decide +kernel
theorem dX11_notOnes_26 : decode cX11_notOnes 26 = .ok (.iload_n 2, 1) := by decide +kernel
theorem dX11_notOnes_27 : decode cX11_notOnes 27 = .ok (.ishl, 1) := by decide +kernel
theorem dX11_notOnes_28 : decode cX11_notOnes 28 = .ok (.ior, 1) := by decide +kernel
theorem dX11_notOnes_29 : decode cX11_notOnes 29 = .ok (.istore_n 1, 1) := by decide +kernel
theorem dX11_notOnes_30 : decode cX11_notOnes 30 = .ok (.iinc 2 1, 3) := by decide +kernel
theorem dX11_notOnes_33 : decode cX11_notOnes 33 = .ok (.goto (-29), 3) := by decide +kernel
theorem dX11_notOnes_36 : decode cX11_notOnes 36 = .ok (.iload_n 1, 1) := by decide +kernel
theorem dX11_notOnes_37 : decode cX11_notOnes 37 = .ok (.ireturn, 1) := by decide +kernel
theorem dX11_centrals_0 : decode cX11_centrals 0 = .ok (.iconst 0, 1) := by decide +kernel
theorem dX11_centrals_1 : decode cX11_centrals 1 = .ok (.istore_n 1, 1) := by decide +kernel
theorem dX11_centrals_2 : decode cX11_centrals 2 = .ok (.iconst 0, 1) := by decide +kernel
theorem dX11_centrals_3 : decode cX11_centrals 3 = .ok (.istore_n 2, 1) := by decide +kernel
theorem dX11_centrals_4 : decode cX11_centrals 4 = .ok (.iload_n 2, 1) := by decide +kernel
theorem dX11_centrals_5 : decode cX11_centrals 5 = .ok (.aload_n 0, 1) := by decide +kernel
theorem dX11_centrals_6 : decode cX11_centrals 6 = .ok (.invokevirtual 88, 3) := by decide +kernel
theorem dX11_centrals_9 : decode cX11_centrals 9 = .ok (.if_icmp .ge 30, 3) := by decide +kernel
theorem dX11_centrals_12 : decode cX11_centrals 12 = .ok (.aload_n 0, 1) := by decide +kernel
theorem dX11_centrals_13 : decode cX11_centrals 13 = .ok (.invokevirtual 235, 3) := by decide +kernel
theorem dX11_centrals_16 : decode cX11_centrals 16 = .ok (.ifCond .eq 23, 3) := by decide +kernel
theorem dX11_centrals_19 : decode cX11_centrals 19 = .ok (.aload_n 0, 1) := by decide +kernel
theorem dX11_centrals_20 : decode cX11_centrals 20 = .ok (.iload_n 2, 1) := by decide +kernel
theorem dX11_centrals_21 : decode cX11_centrals 21 = .ok (.invokevirtual 346, 3) := by decide +kernel
theorem dX11_centrals_24 : decode cX11_centrals 24 = .ok (.ifCond .eq 9, 3) := by decide +kernel
theorem dX11_centrals_27 : decode cX11_centrals 27 = .ok (.iload_n 1, 1) := by decide +kernel
theorem dX11_centrals_28 : decode cX11_centrals 28 = .ok (.iconst 1, 1) := by decide +kernel
theorem dX11_centrals_29 : decode cX11_centrals 29 = .ok (.iload_n 2, 1) := by decide +kernel
theorem dX11_centrals_30 : decode cX11_centrals 30 = .ok (.ishl, 1) := by decide +kernel
theorem dX11_centrals_31 : decode cX11_centrals 31 = .ok (.ior, 1) := by decide +kernel
theorem dX11_centrals_32 : decode cX11_centrals 32 = .ok (.istore_n 1, 1) := by decide +kernel
theorem dX11_centrals_33 : decode cX11_centrals 33 = .ok (.iinc 2 1, 3) := by decide +kernel
theorem dX11_centrals_36 : decode cX11_centrals 36 = .ok (.goto (-32), 3) := by decide +kernel
theorem dX11_centrals_39 : decode cX11_centrals 39 = .ok (.iload_n 1, 1) := by decide +kernel
theorem dX11_centrals_40 : decode cX11_centrals 40 = .ok (.ireturn, 1) := by decide +kernel
theorem dX11_look_0 : decode cX11_look 0 = .ok (.aload_n 0, 1) := by decide +kernel
theorem dX11_look_1 : decode cX11_look 1 = .ok (.iconst 0, 1) := by decide +kernel
theorem dX11_look_2 : decode cX11_look 2 = .ok (.putfield 1, 3) := by decide +kernel
theorem dX11_look_5 : decode cX11_look 5 = .ok (.iload_n 1, 1) := by decide +kernel
theorem dX11_look_6 : decode cX11_look 6 = .ok (.ifCond .ne 8, 3) := by decide +kernel
theorem dX11_look_9 : decode cX11_look 9 = .ok (.aload_n 0, 1) := by decide +kernel
theorem dX11_look_10 : decode cX11_look 10 = .ok (.invokevirtual 88, 3) := by decide +kernel
theorem dX11_look_13 : decode cX11_look 13 = .ok (.ireturn, 1) := by decide +kernel
theorem dX11_look_14 : decode cX11_look 14 = .ok (.iload_n 1, 1) := by decide +kernel
theorem dX11_look_15 : decode cX11_look 15 = .ok (.iconst 1, 1) := by decide +kernel
theorem dX11_look_16 : decode cX11_look 16 = .ok (.if_icmp .ne 8, 3) := by decide +kernel
theorem dX11_look_19 : decode cX11_look 19 = .ok (.aload_n 0, 1) := by decide +kernel
theorem dX11_look_20 : decode cX11_look 20 = .ok (.invokevirtual 263, 3) := by decide +kernel
theorem dX11_look_23 : decode cX11_look 23 = .ok (.ireturn, 1) := by decide +kernel
theorem dX11_look_24 : decode cX11_look 24 = .ok (.iload_n 1, 1) := by decide +kernel
theorem dX11_look_25 : decode cX11_look 25 = .ok (.iconst 2, 1) := by decide +kernel
theorem dX11_look_26 : decode cX11_look 26 = .ok (.if_icmp .ne 16, 3) := by decide +kernel
theorem dX11_look_29 : decode cX11_look 29 = .ok (.aload_n 0, 1) := by decide +kernel
theorem dX11_look_30 : decode cX11_look 30 = .ok (.invokevirtual 235, 3) := by decide +kernel
theorem dX11_look_33 : decode cX11_look 33 = .ok (.ifCond .eq 7, 3) := by decide +kernel
theorem dX11_look_36 : decode cX11_look 36 = .ok (.iconst 1, 1) := by decide +kernel
theorem dX11_look_37 : decode cX11_look 37 = .ok (.goto 4, 3) := by decide +kernel
theorem dX11_look_40 : decode cX11_look 40 = .ok (.iconst 0, 1) := by decide +kernel
theorem dX11_look_41 : decode cX11_look 41 = .ok (.ireturn, 1) := by decide +kernel
theorem dX11_look_42 : decode cX11_look 42 = .ok (.iload_n 1, 1) := by decide +kernel
theorem dX11_look_43 : decode cX11_look 43 = .ok (.iconst 3, 1) := by decide +kernel
theorem dX11_look_44 : decode cX11_look 44 = .ok (.if_icmp .ne 8, 3) := by decide +kernel
theorem dX11_look_47 : decode cX11_look 47 = .ok (.aload_n 0, 1) := by decide +kernel
theorem dX11_look_48 : decode cX11_look 48 = .ok (.invokevirtual 466, 3) := by decide +kernel
theorem dX11_look_51 : decode cX11_look 51 = .ok (.ireturn, 1) := by decide +kernel
theorem dX11_look_52 : decode cX11_look 52 = .ok (.iload_n 1, 1) := by decide +kernel
theorem dX11_look_53 : decode cX11_look 53 = .ok (.iconst 4, 1) := by decide +kernel
theorem dX11_look_54 : decode cX11_look 54 = .ok (.if_icmp .ne 8, 3) := by decide +kernel
theorem dX11_look_57 : decode cX11_look 57 = .ok (.aload_n 0, 1) := by decide +kernel
theorem dX11_look_58 : decode cX11_look 58 = .ok (.invokevirtual 469, 3) := by decide +kernel
theorem dX11_look_61 : decode cX11_look 61 = .ok (.ireturn, 1) := by decide +kernel
theorem dX11_look_62 : decode cX11_look 62 = .ok (.iload_n 1, 1) := by decide +kernel
theorem dX11_look_63 : decode cX11_look 63 = .ok (.iconst 5, 1) := by decide +kernel
theorem dX11_look_64 : decode cX11_look 64 = .ok (.if_icmp .ne 8, 3) := by decide +kernel
theorem dX11_look_67 : decode cX11_look 67 = .ok (.aload_n 0, 1) := by decide +kernel
theorem dX11_look_68 : decode cX11_look 68 = .ok (.invokevirtual 472, 3) := by decide +kernel
theorem dX11_look_71 : decode cX11_look 71 = .ok (.ireturn, 1) := by decide +kernel
theorem dX11_look_72 : decode cX11_look 72 = .ok (.iload_n 1, 1) := by decide +kernel
theorem dX11_look_73 : decode cX11_look 73 = .ok (.bipush 6, 2) := by decide +kernel
theorem dX11_look_75 : decode cX11_look 75 = .ok (.if_icmp .ne 8, 3) := by decide +kernel
theorem dX11_look_78 : decode cX11_look 78 = .ok (.aload_n 0, 1) := by decide +kernel
theorem dX11_look_79 : decode cX11_look 79 = .ok (.getfield 96, 3) := by decide +kernel
theorem dX11_look_82 : decode cX11_look 82 = .ok (.ireturn, 1) := by decide +kernel
theorem dX11_look_83 : decode cX11_look 83 = .ok (.iload_n 1, 1) := by decide +kernel
theorem dX11_look_84 : decode cX11_look 84 = .ok (.bipush 7, 2) := by decide +kernel
theorem dX11_look_86 : decode cX11_look 86 = .ok (.if_icmp .ne 8, 3) := by decide +kernel
theorem dX11_look_89 : decode cX11_look 89 = .ok (.aload_n 0, 1) := by decide +kernel
theorem dX11_look_90 : decode cX11_look 90 = .ok (.getfield 272, 3) := by decide +kernel
theorem dX11_look_93 : decode cX11_look 93 = .ok (.ireturn, 1) := by decide +kernel
theorem dX11_look_94 : decode cX11_look 94 = .ok (.iload_n 1, 1) := by decide +kernel
theorem dX11_look_95 : decode cX11_look 95 = .ok (.bipush 8, 2) := by decide +kernel
theorem dX11_look_97 : decode cX11_look 97 = .ok (.if_icmp .ne 10, 3) := by decide +kernel
theorem dX11_look_100 : decode cX11_look 100 = .ok (.aload_n 0, 1) := by decide +kernel
theorem dX11_look_101 : decode cX11_look 101 = .ok (.getfield 229, 3) := by decide +kernel
theorem dX11_look_104 : decode cX11_look 104 = .ok (.goto 17, 3) := by decide +kernel
theorem dX11_look_107 : decode cX11_look 107 = .ok (.iload_n 1, 1) := by decide +kernel
theorem dX11_look_108 : decode cX11_look 108 = .ok (.bipush 9, 2) := by decide +kernel
theorem dX11_look_110 : decode cX11_look 110 = .ok (.if_icmp .ne 10, 3) := by decide +kernel
theorem dX11_look_113 : decode cX11_look 113 = .ok (.aload_n 0, 1) := by decide +kernel
theorem dX11_look_114 : decode cX11_look 114 = .ok (.invokevirtual 475, 3) := by decide +kernel
theorem dX11_look_117 : decode cX11_look 117 = .ok (.goto 4, 3) := by decide +kernel
theorem dX11_look_120 : decode cX11_look 120 = .ok (.iconst (-1), 1) := by decide +kernel
theorem dX11_look_121 : decode cX11_look 121 = .ok (.ireturn, 1) := by decide +kernel
theorem dJ9_floorDiv_f86c9_0 : decode cJ9_floorDiv_f86c9 0 = .ok (.lload_n 0, 1) := by decide +kernel
theorem dJ9_floorDiv_f86c9_1 : decode cJ9_floorDiv_f86c9 1 = .ok (.lload_n 2, 1) := by decide +kernel
theorem dJ9_floorDiv_f86c9_2 : decode cJ9_floorDiv_f86c9 2 = .ok (.ldiv, 1) := by decide +kernel
theorem dJ9_floorDiv_f86c9_3 : decode cJ9_floorDiv_f86c9 3 = .ok (.lstore 4, 2) := by decide +kernel
theorem dJ9_floorDiv_f86c9_5 : decode cJ9_floorDiv_f86c9 5 = .ok (.lload_n 0, 1) := by decide +kernel
theorem dJ9_floorDiv_f86c9_6 : decode cJ9_floorDiv_f86c9 6 = .ok (.lload_n 2, 1) := by decide +kernel
theorem dJ9_floorDiv_f86c9_7 : decode cJ9_floorDiv_f86c9 7 = .ok (.lxor, 1) := by decide +kernel
theorem dJ9_floorDiv_f86c9_8 : decode cJ9_floorDiv_f86c9 8 = .ok (.lconst 0, 1) := by decide +kernel
theorem dJ9_floorDiv_f86c9_9 : decode cJ9_floorDiv_f86c9 9 = .ok (.lcmp, 1) := by decide +kernel
theorem dJ9_floorDiv_f86c9_10 : decode cJ9_floorDiv_f86c9 10 = .ok (.ifCond .ge 17, 3) := by decide +kernel
theorem dJ9_floorDiv_f86c9_13 : decode cJ9_floorDiv_f86c9 13 = .ok (.lload 4, 2) := by decide +kernel
theorem dJ9_floorDiv_f86c9_15 : decode cJ9_floorDiv_f86c9 15 = .ok (.lload_n 2, 1) := by decide +kernel
theorem dJ9_floorDiv_f86c9_16 : decode cJ9_floorDiv_f86c9 16 = .ok (.lmul, 1) := by decide +kernel
theorem dJ9_floorDiv_f86c9_17 : decode cJ9_floorDiv_f86c9 17 = .ok (.lload_n 0, 1) := by decide +kernel
theorem dJ9_floorDiv_f86c9_18 : decode cJ9_floorDiv_f86c9 18 = .ok (.lcmp, 1) := by decide +kernel
theorem dJ9_floorDiv_f86c9_19 : decode cJ9_floorDiv_f86c9 19 = .ok (.ifCond .eq 8, 3) := by decide +kernel
theorem dJ9_floorDiv_f86c9_22 : decode cJ9_floorDiv_f86c9 22 = .ok (.lload 4, 2) := by decide +kernel
theorem dJ9_floorDiv_f86c9_24 : decode cJ9_floorDiv_f86c9 24 = .ok (.lconst 1, 1) := by decide +kernel
theorem dJ9_floorDiv_f86c9_25 : decode cJ9_floorDiv_f86c9 25 = .ok (.lsub, 1) := by decide +kernel
theorem dJ9_floorDiv_f86c9_26 : decode cJ9_floorDiv_f86c9 26 = .ok (.lreturn, 1) := by decide +kernel
theorem dJ9_floorDiv_f86c9_27 : decode cJ9_floorDiv_f86c9 27 = .ok (.lload 4, 2) := by decide +kernel
theorem dJ9_floorDiv_f86c9_29 : decode cJ9_floorDiv_f86c9 29 = .ok (.lreturn, 1) := by decide +kernel
theorem dJ9_abs_067f4_0 : decode cJ9_abs_067f4 0 = .ok (.lload_n 0, 1) := by decide +kernel
theorem dJ9_abs_067f4_1 : decode cJ9_abs_067f4 1 = .ok (.lconst 0, 1) := by decide +kernel
theorem dJ9_abs_067f4_2 : decode cJ9_abs_067f4 2 = .ok (.lcmp, 1) := by decide +kernel
theorem dJ9_abs_067f4_3 : decode cJ9_abs_067f4 3 = .ok (.ifCond .ge 8, 3) := by decide +kernel
theorem dJ9_abs_067f4_6 : decode cJ9_abs_067f4 6 = .ok (.lload_n 0, 1) := by decide +kernel
theorem dJ9_abs_067f4_7 : decode cJ9_abs_067f4 7 = .ok (.lneg, 1) := by decide +kernel
theorem dJ9_abs_067f4_8 : decode cJ9_abs_067f4 8 = .ok (.goto 4, 3) := by decide +kernel
theorem dJ9_abs_067f4_11 : decode cJ9_abs_067f4 11 = .ok (.lload_n 0, 1) := by decide +kernel
theorem dJ9_abs_067f4_12 : decode cJ9_abs_067f4 12 = .ok (.lreturn, 1) := by decide +kernel
theorem dJ9_max_7cf53_0 : decode cJ9_max_7cf53 0 = .ok (.iload_n 0, 1) := by decide +kernel
theorem dJ9_max_7cf53_1 : decode cJ9_max_7cf53 1 = .ok (.iload_n 1, 1) := by decide +kernel
theorem dJ9_max_7cf53_2 : decode cJ9_max_7cf53 2 = .ok (.if_icmp .lt 7, 3) := by decide +kernel
theorem dJ9_max_7cf53_5 : decode cJ9_max_7cf53 5 = .ok (.iload_n 0, 1) := by decide +kernel
theorem dJ9_max_7cf53_6 : decode cJ9_max_7cf53 6 = .ok (.goto 4, 3) := by decide +kernel
theorem dJ9_max_7cf53_9 : decode cJ9_max_7cf53 9 = .ok (.iload_n 1, 1) := by decide +kernel
theorem dJ9_max_7cf53_10 : decode cJ9_max_7cf53 10 = .ok (.ireturn, 1) := by decide +kernel
theorem dJ9_min_7cf53_0 : decode cJ9_min_7cf53 0 = .ok (.iload_n 0, 1) := by decide +kernel
theorem dJ9_min_7cf53_1 : decode cJ9_min_7cf53 1 = .ok (.iload_n 1, 1) := by decide +kernel
theorem dJ9_min_7cf53_2 : decode cJ9_min_7cf53 2 = .ok (.if_icmp .gt 7, 3) := by decide +kernel
theorem dJ9_min_7cf53_5 : decode cJ9_min_7cf53 5 = .ok (.iload_n 0, 1) := by decide +kernel
theorem dJ9_min_7cf53_6 : decode cJ9_min_7cf53 6 = .ok (.goto 4, 3) := by decide +kernel
theorem dJ9_min_7cf53_9 : decode cJ9_min_7cf53 9 = .ok (.iload_n 1, 1) := by decide +kernel
theorem dJ9_min_7cf53_10 : decode cJ9_min_7cf53 10 = .ok (.ireturn, 1) := by decide +kernel
theorem dJ7_fill_d0a16_0 : decode cJ7_fill_d0a16 0 = .ok (.iconst 0, 1) := by decide +kernel
theorem dJ7_fill_d0a16_1 : decode cJ7_fill_d0a16 1 = .ok (.istore_n 3, 1) := by decide +kernel
theorem dJ7_fill_d0a16_2 : decode cJ7_fill_d0a16 2 = .ok (.aload_n 0, 1) := by decide +kernel
theorem dJ7_fill_d0a16_3 : decode cJ7_fill_d0a16 3 = .ok (.arraylength, 1) := by decide +kernel
theorem dJ7_fill_d0a16_4 : decode cJ7_fill_d0a16 4 = .ok (.istore 4, 2) := by decide +kernel
theorem dJ7_fill_d0a16_6 : decode cJ7_fill_d0a16 6 = .ok (.iload_n 3, 1) := by decide +kernel
theorem dJ7_fill_d0a16_7 : decode cJ7_fill_d0a16 7 = .ok (.iload 4, 2) := by decide +kernel
theorem dJ7_fill_d0a16_9 : decode cJ7_fill_d0a16 9 = .ok (.if_icmp .ge 13, 3) := by decide +kernel
theorem dJ7_fill_d0a16_12 : decode cJ7_fill_d0a16 12 = .ok (.aload_n 0, 1) := by decide +kernel
theorem dJ7_fill_d0a16_13 : decode cJ7_fill_d0a16 13 = .ok (.iload_n 3, 1) := by decide +kernel
theorem dJ7_fill_d0a16_14 : decode cJ7_fill_d0a16 14 = .ok (.lload_n 1, 1) := by decide +kernel
theorem dJ7_fill_d0a16_15 : decode cJ7_fill_d0a16 15 = .ok (.lastore, 1) := by decide +kernel
theorem dJ7_fill_d0a16_16 : decode cJ7_fill_d0a16 16 = .ok (.iinc 3 1, 3) := by decide +kernel
theorem dJ7_fill_d0a16_19 : decode cJ7_fill_d0a16 19 = .ok (.goto (-13), 3) := by decide +kernel
theorem dJ7_fill_d0a16_22 : decode cJ7_fill_d0a16 22 = .ok (.return_, 1) := by decide +kernel
theorem dJ7_fill_53178_0 : decode cJ7_fill_53178 0 = .ok (.iconst 0, 1) := by decide +kernel
theorem dJ7_fill_53178_1 : decode cJ7_fill_53178 1 = .ok (.istore_n 2, 1) := by decide +kernel
theorem dJ7_fill_53178_2 : decode cJ7_fill_53178 2 = .ok (.aload_n 0, 1) := by decide +kernel
theorem dJ7_fill_53178_3 : decode cJ7_fill_53178 3 = .ok (.arraylength, 1) := by decide +kernel
theorem dJ7_fill_53178_4 : decode cJ7_fill_53178 4 = .ok (.istore_n 3, 1) := by decide +kernel
theorem dJ7_fill_53178_5 : decode cJ7_fill_53178 5 = .ok (.iload_n 2, 1) := by decide +kernel
theorem dJ7_fill_53178_6 : decode cJ7_fill_53178 6 = .ok (.iload_n 3, 1) := by decide +kernel
theorem dJ7_fill_53178_7 : decode cJ7_fill_53178 7 = .ok (.if_icmp .ge 13, 3) := by decide +kernel
theorem dJ7_fill_53178_10 : decode cJ7_fill_53178 10 = .ok (.aload_n 0, 1) := by decide +kernel
theorem dJ7_fill_53178_11 : decode cJ7_fill_53178 11 = .ok (.iload_n 2, 1) := by decide +kernel
theorem dJ7_fill_53178_12 : decode cJ7_fill_53178 12 = .ok (.iload_n 1, 1) := by decide +kernel
theorem dJ7_fill_53178_13 : decode cJ7_fill_53178 13 = .ok (.iastore, 1) := by decide +kernel
theorem dJ7_fill_53178_14 : decode cJ7_fill_53178 14 = .ok (.iinc 2 1, 3) := by decide +kernel
theorem dJ7_fill_53178_17 : decode cJ7_fill_53178 17 = .ok (.goto (-12), 3) := by decide +kernel
theorem dJ7_fill_53178_20 : decode cJ7_fill_53178 20 = .ok (.return_, 1) := by decide +kernel
theorem dL_law_0 : decode cL_law 0 = .ok (.new 7, 3) := by decide +kernel
theorem dL_law_3 : decode cL_law 3 = .ok (.dup, 1) := by decide +kernel
theorem dL_law_4 : decode cL_law 4 = .ok (.invokespecial 9, 3) := by decide +kernel
theorem dL_law_7 : decode cL_law 7 = .ok (.astore_n 1, 1) := by decide +kernel
theorem dL_law_8 : decode cL_law 8 = .ok (.new 10, 3) := by decide +kernel
theorem dL_law_11 : decode cL_law 11 = .ok (.dup, 1) := by decide +kernel
theorem dL_law_12 : decode cL_law 12 = .ok (.invokespecial 12, 3) := by decide +kernel
theorem dL_law_15 : decode cL_law 15 = .ok (.astore_n 2, 1) := by decide +kernel
theorem dL_law_16 : decode cL_law 16 = .ok (.iconst 0, 1) := by decide +kernel
theorem dL_law_17 : decode cL_law 17 = .ok (.istore_n 3, 1) := by decide +kernel
theorem dL_law_18 : decode cL_law 18 = .ok (.iload_n 3, 1) := by decide +kernel
theorem dL_law_19 : decode cL_law 19 = .ok (.aload_n 0, 1) := by decide +kernel
theorem dL_law_20 : decode cL_law 20 = .ok (.arraylength, 1) := by decide +kernel
theorem dL_law_21 : decode cL_law 21 = .ok (.bipush 6, 2) := by decide +kernel
theorem dL_law_23 : decode cL_law 23 = .ok (.isub, 1) := by decide +kernel
theorem dL_law_24 : decode cL_law 24 = .ok (.if_icmp .gt 1297, 3) := by decide +kernel
theorem dL_law_27 : decode cL_law 27 = .ok (.aload_n 0, 1) := by decide +kernel
theorem dL_law_28 : decode cL_law 28 = .ok (.iload_n 3, 1) := by decide +kernel
theorem dL_law_29 : decode cL_law 29 = .ok (.iaload, 1) := by decide +kernel
theorem dL_law_30 : decode cL_law 30 = .ok (.bipush 63, 2) := by decide +kernel
theorem dL_law_32 : decode cL_law 32 = .ok (.iand, 1) := by decide +kernel
theorem dL_law_33 : decode cL_law 33 = .ok (.tableswitch 1282 0 32 #[147, 180, 233, 256, 299, 342, 375, 418, 461, 504, 547, 600, 663, 686, 709, 732, 745, 768, 781, 814, 847, 890, 913, 956, 989, 1032, 1065, 1098, 1141, 1184, 1207, 1220, 1259], 147) := by decide +kernel
theorem dL_law_180 : decode cL_law 180 = .ok (.aload_n 1, 1) := by decide +kernel
theorem dL_law_181 : decode cL_law 181 = .ok (.aload_n 0, 1) := by decide +kernel
theorem dL_law_182 : decode cL_law 182 = .ok (.iload_n 3, 1) := by decide +kernel
theorem dL_law_183 : decode cL_law 183 = .ok (.iconst 1, 1) := by decide +kernel
theorem dL_law_184 : decode cL_law 184 = .ok (.iadd, 1) := by decide +kernel
theorem dL_law_185 : decode cL_law 185 = .ok (.iaload, 1) := by decide +kernel
theorem dL_law_186 : decode cL_law 186 = .ok (.aload_n 0, 1) := by decide +kernel
theorem dL_law_187 : decode cL_law 187 = .ok (.iload_n 3, 1) := by decide +kernel
theorem dL_law_188 : decode cL_law 188 = .ok (.iconst 2, 1) := by decide +kernel
theorem dL_law_189 : decode cL_law 189 = .ok (.iadd, 1) := by decide +kernel
theorem dL_law_190 : decode cL_law 190 = .ok (.iaload, 1) := by decide +kernel
theorem dL_law_191 : decode cL_law 191 = .ok (.invokevirtual 13, 3) := by decide +kernel
theorem dL_law_194 : decode cL_law 194 = .ok (.pop, 1) := by decide +kernel
theorem dL_law_195 : decode cL_law 195 = .ok (.aload_n 2, 1) := by decide +kernel
theorem dL_law_196 : decode cL_law 196 = .ok (.aload_n 0, 1) := by decide +kernel
theorem dL_law_197 : decode cL_law 197 = .ok (.iload_n 3, 1) := by decide +kernel
theorem dL_law_198 : decode cL_law 198 = .ok (.iconst 1, 1) := by decide +kernel
theorem dL_law_199 : decode cL_law 199 = .ok (.iadd, 1) := by decide +kernel
theorem dL_law_200 : decode cL_law 200 = .ok (.iaload, 1) := by decide +kernel
theorem dL_law_201 : decode cL_law 201 = .ok (.aload_n 0, 1) := by decide +kernel
theorem dL_law_202 : decode cL_law 202 = .ok (.iload_n 3, 1) := by decide +kernel
theorem dL_law_203 : decode cL_law 203 = .ok (.iconst 2, 1) := by decide +kernel
theorem dL_law_204 : decode cL_law 204 = .ok (.iadd, 1) := by decide +kernel
theorem dL_law_205 : decode cL_law 205 = .ok (.iaload, 1) := by decide +kernel
theorem dL_law_206 : decode cL_law 206 = .ok (.invokevirtual 17, 3) := by decide +kernel
theorem dL_law_209 : decode cL_law 209 = .ok (.pop, 1) := by decide +kernel
theorem dL_law_210 : decode cL_law 210 = .ok (.goto 1105, 3) := by decide +kernel
theorem dL_law_213 : decode cL_law 213 = .ok (.aload_n 1, 1) := by decide +kernel
theorem dL_law_214 : decode cL_law 214 = .ok (.aload_n 0, 1) := by decide +kernel
theorem dL_law_215 : decode cL_law 215 = .ok (.iload_n 3, 1) := by decide +kernel
theorem dL_law_216 : decode cL_law 216 = .ok (.iconst 1, 1) := by decide +kernel
theorem dL_law_217 : decode cL_law 217 = .ok (.iadd, 1) := by decide +kernel
theorem dL_law_218 : decode cL_law 218 = .ok (.iaload, 1) := by decide +kernel
theorem dL_law_219 : decode cL_law 219 = .ok (.aload_n 0, 1) := by decide +kernel
theorem dL_law_220 : decode cL_law 220 = .ok (.iload_n 3, 1) := by decide +kernel
theorem dL_law_221 : decode cL_law 221 = .ok (.iconst 2, 1) := by decide +kernel
theorem dL_law_222 : decode cL_law 222 = .ok (.iadd, 1) := by decide +kernel
theorem dL_law_223 : decode cL_law 223 = .ok (.iaload, 1) := by decide +kernel
theorem dL_law_224 : decode cL_law 224 = .ok (.aload_n 0, 1) := by decide +kernel
theorem dL_law_225 : decode cL_law 225 = .ok (.iload_n 3, 1) := by decide +kernel
theorem dL_law_226 : decode cL_law 226 = .ok (.iconst 3, 1) := by decide +kernel
theorem dL_law_227 : decode cL_law 227 = .ok (.iadd, 1) := by decide +kernel
theorem dL_law_228 : decode cL_law 228 = .ok (.iaload, 1) := by decide +kernel
theorem dL_law_229 : decode cL_law 229 = .ok (.aload_n 0, 1) := by decide +kernel
theorem dL_law_230 : decode cL_law 230 = .ok (.iload_n 3, 1) := by decide +kernel
theorem dL_law_231 : decode cL_law 231 = .ok (.iconst 4, 1) := by decide +kernel
theorem dL_law_232 : decode cL_law 232 = .ok (.iadd, 1) := by decide +kernel
theorem dL_law_233 : decode cL_law 233 = .ok (.iaload, 1) := by decide +kernel
theorem dL_law_234 : decode cL_law 234 = .ok (.invokevirtual 18, 3) := by decide +kernel
theorem dL_law_237 : decode cL_law 237 = .ok (.pop, 1) := by decide +kernel
theorem dL_law_238 : decode cL_law 238 = .ok (.aload_n 2, 1) := by decide +kernel
theorem dL_law_239 : decode cL_law 239 = .ok (.aload_n 0, 1) := by decide +kernel
theorem dL_law_240 : decode cL_law 240 = .ok (.iload_n 3, 1) := by decide +kernel
theorem dL_law_241 : decode cL_law 241 = .ok (.iconst 1, 1) := by decide +kernel
theorem dL_law_242 : decode cL_law 242 = .ok (.iadd, 1) := by decide +kernel
theorem dL_law_243 : decode cL_law 243 = .ok (.iaload, 1) := by decide +kernel
theorem dL_law_244 : decode cL_law 244 = .ok (.aload_n 0, 1) := by decide +kernel
theorem dL_law_245 : decode cL_law 245 = .ok (.iload_n 3, 1) := by decide +kernel
theorem dL_law_246 : decode cL_law 246 = .ok (.iconst 2, 1) := by decide +kernel
theorem dL_law_247 : decode cL_law 247 = .ok (.iadd, 1) := by decide +kernel
theorem dL_law_248 : decode cL_law 248 = .ok (.iaload, 1) := by decide +kernel
theorem dL_law_249 : decode cL_law 249 = .ok (.aload_n 0, 1) := by decide +kernel
theorem dL_law_250 : decode cL_law 250 = .ok (.iload_n 3, 1) := by decide +kernel
theorem dL_law_251 : decode cL_law 251 = .ok (.iconst 3, 1) := by decide +kernel
theorem dL_law_252 : decode cL_law 252 = .ok (.iadd, 1) := by decide +kernel
theorem dL_law_253 : decode cL_law 253 = .ok (.iaload, 1) := by decide +kernel
theorem dL_law_254 : decode cL_law 254 = .ok (.aload_n 0, 1) := by decide +kernel
theorem dL_law_255 : decode cL_law 255 = .ok (.iload_n 3, 1) := by decide +kernel
theorem dL_law_256 : decode cL_law 256 = .ok (.iconst 4, 1) := by decide +kernel
theorem dL_law_257 : decode cL_law 257 = .ok (.iadd, 1) := by decide +kernel
theorem dL_law_258 : decode cL_law 258 = .ok (.iaload, 1) := by decide +kernel
theorem dL_law_259 : decode cL_law 259 = .ok (.invokevirtual 22, 3) := by decide +kernel
theorem dL_law_262 : decode cL_law 262 = .ok (.pop, 1) := by decide +kernel
theorem dL_law_263 : decode cL_law 263 = .ok (.goto 1052, 3) := by decide +kernel
theorem dL_law_266 : decode cL_law 266 = .ok (.aload_n 1, 1) := by decide +kernel
theorem dL_law_267 : decode cL_law 267 = .ok (.aload_n 0, 1) := by decide +kernel
theorem dL_law_268 : decode cL_law 268 = .ok (.iload_n 3, 1) := by decide +kernel
theorem dL_law_269 : decode cL_law 269 = .ok (.iconst 1, 1) := by decide +kernel
theorem dL_law_270 : decode cL_law 270 = .ok (.iadd, 1) := by decide +kernel
theorem dL_law_271 : decode cL_law 271 = .ok (.iaload, 1) := by decide +kernel
theorem dL_law_272 : decode cL_law 272 = .ok (.invokevirtual 23, 3) := by decide +kernel
theorem dL_law_275 : decode cL_law 275 = .ok (.pop, 1) := by decide +kernel
theorem dL_law_276 : decode cL_law 276 = .ok (.aload_n 2, 1) := by decide +kernel
theorem dL_law_277 : decode cL_law 277 = .ok (.aload_n 0, 1) := by decide +kernel
theorem dL_law_278 : decode cL_law 278 = .ok (.iload_n 3, 1) := by decide +kernel
theorem dL_law_279 : decode cL_law 279 = .ok (.iconst 1, 1) := by decide +kernel
theorem dL_law_280 : decode cL_law 280 = .ok (.iadd, 1) := by decide +kernel
theorem dL_law_281 : decode cL_law 281 = .ok (.iaload, 1) := by decide +kernel
theorem dL_law_282 : decode cL_law 282 = .ok (.invokevirtual 27, 3) := by decide +kernel
theorem dL_law_285 : decode cL_law 285 = .ok (.pop, 1) := by decide +kernel
theorem dL_law_286 : decode cL_law 286 = .ok (.goto 1029, 3) := by decide +kernel
theorem dL_law_289 : decode cL_law 289 = .ok (.aload_n 1, 1) := by decide +kernel
theorem dL_law_290 : decode cL_law 290 = .ok (.aload_n 0, 1) := by decide +kernel
theorem dL_law_291 : decode cL_law 291 = .ok (.iload_n 3, 1) := by decide +kernel
theorem dL_law_292 : decode cL_law 292 = .ok (.iconst 1, 1) := by decide +kernel
theorem dL_law_293 : decode cL_law 293 = .ok (.iadd, 1) := by decide +kernel
theorem dL_law_294 : decode cL_law 294 = .ok (.iaload, 1) := by decide +kernel
theorem dL_law_295 : decode cL_law 295 = .ok (.aload_n 0, 1) := by decide +kernel
theorem dL_law_296 : decode cL_law 296 = .ok (.iload_n 3, 1) := by decide +kernel
theorem dL_law_297 : decode cL_law 297 = .ok (.iconst 2, 1) := by decide +kernel
theorem dL_law_298 : decode cL_law 298 = .ok (.iadd, 1) := by decide +kernel
theorem dL_law_299 : decode cL_law 299 = .ok (.iaload, 1) := by decide +kernel
theorem dL_law_300 : decode cL_law 300 = .ok (.aload_n 0, 1) := by decide +kernel
theorem dL_law_301 : decode cL_law 301 = .ok (.iload_n 3, 1) := by decide +kernel
theorem dL_law_302 : decode cL_law 302 = .ok (.iconst 3, 1) := by decide +kernel
theorem dL_law_303 : decode cL_law 303 = .ok (.iadd, 1) := by decide +kernel
theorem dL_law_304 : decode cL_law 304 = .ok (.iaload, 1) := by decide +kernel
theorem dL_law_305 : decode cL_law 305 = .ok (.invokevirtual 28, 3) := by decide +kernel
theorem dL_law_308 : decode cL_law 308 = .ok (.pop, 1) := by decide +kernel
theorem dL_law_309 : decode cL_law 309 = .ok (.aload_n 2, 1) := by decide +kernel
theorem dL_law_310 : decode cL_law 310 = .ok (.aload_n 0, 1) := by decide +kernel
theorem dL_law_311 : decode cL_law 311 = .ok (.iload_n 3, 1) := by decide +kernel
theorem dL_law_312 : decode cL_law 312 = .ok (.iconst 1, 1) := by decide +kernel
theorem dL_law_313 : decode cL_law 313 = .ok (.iadd, 1) := by decide +kernel
theorem dL_law_314 : decode cL_law 314 = .ok (.iaload, 1) := by decide +kernel
theorem dL_law_315 : decode cL_law 315 = .ok (.aload_n 0, 1) := by decide +kernel
theorem dL_law_316 : decode cL_law 316 = .ok (.iload_n 3, 1) := by decide +kernel
theorem dL_law_317 : decode cL_law 317 = .ok (.iconst 2, 1) := by decide +kernel
theorem dL_law_318 : decode cL_law 318 = .ok (.iadd, 1) := by decide +kernel
theorem dL_law_319 : decode cL_law 319 = .ok (.iaload, 1) := by decide +kernel
theorem dL_law_320 : decode cL_law 320 = .ok (.aload_n 0, 1) := by decide +kernel
theorem dL_law_321 : decode cL_law 321 = .ok (.iload_n 3, 1) := by decide +kernel
theorem dL_law_322 : decode cL_law 322 = .ok (.iconst 3, 1) := by decide +kernel
theorem dL_law_323 : decode cL_law 323 = .ok (.iadd, 1) := by decide +kernel
theorem dL_law_324 : decode cL_law 324 = .ok (.iaload, 1) := by decide +kernel
theorem dL_law_325 : decode cL_law 325 = .ok (.invokevirtual 32, 3) := by decide +kernel
theorem dL_law_328 : decode cL_law 328 = .ok (.pop, 1) := by decide +kernel
theorem dL_law_329 : decode cL_law 329 = .ok (.goto 986, 3) := by decide +kernel
theorem dL_law_332 : decode cL_law 332 = .ok (.aload_n 1, 1) := by decide +kernel
theorem dL_law_333 : decode cL_law 333 = .ok (.aload_n 0, 1) := by decide +kernel
theorem dL_law_334 : decode cL_law 334 = .ok (.iload_n 3, 1) := by decide +kernel
theorem dL_law_335 : decode cL_law 335 = .ok (.iconst 1, 1) := by decide +kernel
theorem dL_law_336 : decode cL_law 336 = .ok (.iadd, 1) := by decide +kernel
theorem dL_law_337 : decode cL_law 337 = .ok (.iaload, 1) := by decide +kernel
theorem dL_law_338 : decode cL_law 338 = .ok (.aload_n 0, 1) := by decide +kernel
theorem dL_law_339 : decode cL_law 339 = .ok (.iload_n 3, 1) := by decide +kernel
theorem dL_law_340 : decode cL_law 340 = .ok (.iconst 2, 1) := by decide +kernel
theorem dL_law_341 : decode cL_law 341 = .ok (.iadd, 1) := by decide +kernel
theorem dL_law_342 : decode cL_law 342 = .ok (.iaload, 1) := by decide +kernel
theorem dL_law_343 : decode cL_law 343 = .ok (.aload_n 0, 1) := by decide +kernel
theorem dL_law_344 : decode cL_law 344 = .ok (.iload_n 3, 1) := by decide +kernel
theorem dL_law_345 : decode cL_law 345 = .ok (.iconst 3, 1) := by decide +kernel
theorem dL_law_346 : decode cL_law 346 = .ok (.iadd, 1) := by decide +kernel
theorem dL_law_347 : decode cL_law 347 = .ok (.iaload, 1) := by decide +kernel
theorem dL_law_348 : decode cL_law 348 = .ok (.invokevirtual 33, 3) := by decide +kernel
theorem dL_law_351 : decode cL_law 351 = .ok (.pop, 1) := by decide +kernel
theorem dL_law_352 : decode cL_law 352 = .ok (.aload_n 2, 1) := by decide +kernel
theorem dL_law_353 : decode cL_law 353 = .ok (.aload_n 0, 1) := by decide +kernel
theorem dL_law_354 : decode cL_law 354 = .ok (.iload_n 3, 1) := by decide +kernel
theorem dL_law_355 : decode cL_law 355 = .ok (.iconst 1, 1) := by decide +kernel
theorem dL_law_356 : decode cL_law 356 = .ok (.iadd, 1) := by decide +kernel
theorem dL_law_357 : decode cL_law 357 = .ok (.iaload, 1) := by decide +kernel
theorem dL_law_358 : decode cL_law 358 = .ok (.aload_n 0, 1) := by decide +kernel
theorem dL_law_359 : decode cL_law 359 = .ok (.iload_n 3, 1) := by decide +kernel
theorem dL_law_360 : decode cL_law 360 = .ok (.iconst 2, 1) := by decide +kernel
theorem dL_law_361 : decode cL_law 361 = .ok (.iadd, 1) := by decide +kernel
theorem dL_law_362 : decode cL_law 362 = .ok (.iaload, 1) := by decide +kernel
theorem dL_law_363 : decode cL_law 363 = .ok (.aload_n 0, 1) := by decide +kernel
theorem dL_law_364 : decode cL_law 364 = .ok (.iload_n 3, 1) := by decide +kernel
theorem dL_law_365 : decode cL_law 365 = .ok (.iconst 3, 1) := by decide +kernel
theorem dL_law_366 : decode cL_law 366 = .ok (.iadd, 1) := by decide +kernel
theorem dL_law_367 : decode cL_law 367 = .ok (.iaload, 1) := by decide +kernel
theorem dL_law_368 : decode cL_law 368 = .ok (.invokevirtual 36, 3) := by decide +kernel
theorem dL_law_371 : decode cL_law 371 = .ok (.pop, 1) := by decide +kernel
theorem dL_law_372 : decode cL_law 372 = .ok (.goto 943, 3) := by decide +kernel
theorem dL_law_375 : decode cL_law 375 = .ok (.aload_n 1, 1) := by decide +kernel
theorem dL_law_376 : decode cL_law 376 = .ok (.aload_n 0, 1) := by decide +kernel
theorem dL_law_377 : decode cL_law 377 = .ok (.iload_n 3, 1) := by decide +kernel
theorem dL_law_378 : decode cL_law 378 = .ok (.iconst 1, 1) := by decide +kernel
theorem dL_law_379 : decode cL_law 379 = .ok (.iadd, 1) := by decide +kernel
theorem dL_law_380 : decode cL_law 380 = .ok (.iaload, 1) := by decide +kernel
theorem dL_law_381 : decode cL_law 381 = .ok (.aload_n 0, 1) := by decide +kernel
theorem dL_law_382 : decode cL_law 382 = .ok (.iload_n 3, 1) := by decide +kernel
theorem dL_law_383 : decode cL_law 383 = .ok (.iconst 2, 1) := by decide +kernel
theorem dL_law_384 : decode cL_law 384 = .ok (.iadd, 1) := by decide +kernel
theorem dL_law_385 : decode cL_law 385 = .ok (.iaload, 1) := by decide +kernel
theorem dL_law_386 : decode cL_law 386 = .ok (.invokevirtual 37, 3) := by decide +kernel
theorem dL_law_389 : decode cL_law 389 = .ok (.pop, 1) := by decide +kernel
theorem dL_law_390 : decode cL_law 390 = .ok (.aload_n 2, 1) := by decide +kernel
theorem dL_law_391 : decode cL_law 391 = .ok (.aload_n 0, 1) := by decide +kernel
theorem dL_law_392 : decode cL_law 392 = .ok (.iload_n 3, 1) := by decide +kernel
theorem dL_law_393 : decode cL_law 393 = .ok (.iconst 1, 1) := by decide +kernel
theorem dL_law_394 : decode cL_law 394 = .ok (.iadd, 1) := by decide +kernel
theorem dL_law_395 : decode cL_law 395 = .ok (.iaload, 1) := by decide +kernel
theorem dL_law_396 : decode cL_law 396 = .ok (.aload_n 0, 1) := by decide +kernel
theorem dL_law_397 : decode cL_law 397 = .ok (.iload_n 3, 1) := by decide +kernel
theorem dL_law_398 : decode cL_law 398 = .ok (.iconst 2, 1) := by decide +kernel
theorem dL_law_399 : decode cL_law 399 = .ok (.iadd, 1) := by decide +kernel
theorem dL_law_400 : decode cL_law 400 = .ok (.iaload, 1) := by decide +kernel
theorem dL_law_401 : decode cL_law 401 = .ok (.invokevirtual 40, 3) := by decide +kernel
theorem dL_law_404 : decode cL_law 404 = .ok (.pop, 1) := by decide +kernel
theorem dL_law_405 : decode cL_law 405 = .ok (.goto 910, 3) := by decide +kernel
theorem dL_law_408 : decode cL_law 408 = .ok (.aload_n 1, 1) := by decide +kernel
theorem dL_law_409 : decode cL_law 409 = .ok (.aload_n 0, 1) := by decide +kernel
theorem dL_law_410 : decode cL_law 410 = .ok (.iload_n 3, 1) := by decide +kernel
theorem dL_law_411 : decode cL_law 411 = .ok (.iconst 1, 1) := by decide +kernel
theorem dL_law_412 : decode cL_law 412 = .ok (.iadd, 1) := by decide +kernel
theorem dL_law_413 : decode cL_law 413 = .ok (.iaload, 1) := by decide +kernel
theorem dL_law_414 : decode cL_law 414 = .ok (.aload_n 0, 1) := by decide +kernel
theorem dL_law_415 : decode cL_law 415 = .ok (.iload_n 3, 1) := by decide +kernel
theorem dL_law_416 : decode cL_law 416 = .ok (.iconst 2, 1) := by decide +kernel
theorem dL_law_417 : decode cL_law 417 = .ok (.iadd, 1) := by decide +kernel
theorem dL_law_418 : decode cL_law 418 = .ok (.iaload, 1) := by decide +kernel
theorem dL_law_419 : decode cL_law 419 = .ok (.aload_n 0, 1) := by decide +kernel
theorem dL_law_420 : decode cL_law 420 = .ok (.iload_n 3, 1) := by decide +kernel
theorem dL_law_421 : decode cL_law 421 = .ok (.iconst 3, 1) := by decide +kernel
theorem dL_law_422 : decode cL_law 422 = .ok (.iadd, 1) := by decide +kernel
theorem dL_law_423 : decode cL_law 423 = .ok (.iaload, 1) := by decide +kernel
theorem dL_law_424 : decode cL_law 424 = .ok (.invokevirtual 41, 3) := by decide +kernel
theorem dL_law_427 : decode cL_law 427 = .ok (.pop, 1) := by decide +kernel
theorem dL_law_428 : decode cL_law 428 = .ok (.aload_n 2, 1) := by decide +kernel
theorem dL_law_429 : decode cL_law 429 = .ok (.aload_n 0, 1) := by decide +kernel
theorem dL_law_430 : decode cL_law 430 = .ok (.iload_n 3, 1) := by decide +kernel
theorem dL_law_431 : decode cL_law 431 = .ok (.iconst 1, 1) := by decide +kernel
theorem dL_law_432 : decode cL_law 432 = .ok (.iadd, 1) := by decide +kernel
theorem dL_law_433 : decode cL_law 433 = .ok (.iaload, 1) := by decide +kernel
theorem dL_law_434 : decode cL_law 434 = .ok (.aload_n 0, 1) := by decide +kernel
theorem dL_law_435 : decode cL_law 435 = .ok (.iload_n 3, 1) := by decide +kernel
theorem dL_law_436 : decode cL_law 436 = .ok (.iconst 2, 1) := by decide +kernel
theorem dL_law_437 : decode cL_law 437 = .ok (.iadd, 1) := by decide +kernel
theorem dL_law_438 : decode cL_law 438 = .ok (.iaload, 1) := by decide +kernel
theorem dL_law_439 : decode cL_law 439 = .ok (.aload_n 0, 1) := by decide +kernel
theorem dL_law_440 : decode cL_law 440 = .ok (.iload_n 3, 1) := by decide +kernel
theorem dL_law_441 : decode cL_law 441 = .ok (.iconst 3, 1) := by decide +kernel
theorem dL_law_442 : decode cL_law 442 = .ok (.iadd, 1) := by decide +kernel
theorem dL_law_443 : decode cL_law 443 = .ok (.iaload, 1) := by decide +kernel
theorem dL_law_444 : decode cL_law 444 = .ok (.invokevirtual 44, 3) := by decide +kernel
theorem dL_law_447 : decode cL_law 447 = .ok (.pop, 1) := by decide +kernel
theorem dL_law_448 : decode cL_law 448 = .ok (.goto 867, 3) := by decide +kernel
theorem dL_law_451 : decode cL_law 451 = .ok (.aload_n 1, 1) := by decide +kernel
theorem dL_law_452 : decode cL_law 452 = .ok (.aload_n 0, 1) := by decide +kernel
theorem dL_law_453 : decode cL_law 453 = .ok (.iload_n 3, 1) := by decide +kernel
theorem dL_law_454 : decode cL_law 454 = .ok (.iconst 1, 1) := by decide +kernel
theorem dL_law_455 : decode cL_law 455 = .ok (.iadd, 1) := by decide +kernel
theorem dL_law_456 : decode cL_law 456 = .ok (.iaload, 1) := by decide +kernel
theorem dL_law_457 : decode cL_law 457 = .ok (.aload_n 0, 1) := by decide +kernel
theorem dL_law_458 : decode cL_law 458 = .ok (.iload_n 3, 1) := by decide +kernel
theorem dL_law_459 : decode cL_law 459 = .ok (.iconst 2, 1) := by decide +kernel
theorem dL_law_460 : decode cL_law 460 = .ok (.iadd, 1) := by decide +kernel
theorem dL_law_461 : decode cL_law 461 = .ok (.iaload, 1) := by decide +kernel
theorem dL_law_462 : decode cL_law 462 = .ok (.aload_n 0, 1) := by decide +kernel
theorem dL_law_463 : decode cL_law 463 = .ok (.iload_n 3, 1) := by decide +kernel
theorem dL_law_464 : decode cL_law 464 = .ok (.iconst 3, 1) := by decide +kernel
theorem dL_law_465 : decode cL_law 465 = .ok (.iadd, 1) := by decide +kernel
theorem dL_law_466 : decode cL_law 466 = .ok (.iaload, 1) := by decide +kernel
theorem dL_law_467 : decode cL_law 467 = .ok (.invokevirtual 45, 3) := by decide +kernel
theorem dL_law_470 : decode cL_law 470 = .ok (.pop, 1) := by decide +kernel
theorem dL_law_471 : decode cL_law 471 = .ok (.aload_n 2, 1) := by decide +kernel
theorem dL_law_472 : decode cL_law 472 = .ok (.aload_n 0, 1) := by decide +kernel
theorem dL_law_473 : decode cL_law 473 = .ok (.iload_n 3, 1) := by decide +kernel
theorem dL_law_474 : decode cL_law 474 = .ok (.iconst 1, 1) := by decide +kernel
theorem dL_law_475 : decode cL_law 475 = .ok (.iadd, 1) := by decide +kernel
theorem dL_law_476 : decode cL_law 476 = .ok (.iaload, 1) := by decide +kernel
theorem dL_law_477 : decode cL_law 477 = .ok (.aload_n 0, 1) := by decide +kernel
theorem dL_law_478 : decode cL_law 478 = .ok (.iload_n 3, 1) := by decide +kernel
theorem dL_law_479 : decode cL_law 479 = .ok (.iconst 2, 1) := by decide +kernel
theorem dL_law_480 : decode cL_law 480 = .ok (.iadd, 1) := by decide +kernel
theorem dL_law_481 : decode cL_law 481 = .ok (.iaload, 1) := by decide +kernel
theorem dL_law_482 : decode cL_law 482 = .ok (.aload_n 0, 1) := by decide +kernel
theorem dL_law_483 : decode cL_law 483 = .ok (.iload_n 3, 1) := by decide +kernel
theorem dL_law_484 : decode cL_law 484 = .ok (.iconst 3, 1) := by decide +kernel
theorem dL_law_485 : decode cL_law 485 = .ok (.iadd, 1) := by decide +kernel
theorem dL_law_486 : decode cL_law 486 = .ok (.iaload, 1) := by decide +kernel
theorem dL_law_487 : decode cL_law 487 = .ok (.invokevirtual 48, 3) := by decide +kernel
theorem dL_law_490 : decode cL_law 490 = .ok (.pop, 1) := by decide +kernel
theorem dL_law_491 : decode cL_law 491 = .ok (.goto 824, 3) := by decide +kernel
theorem dL_law_494 : decode cL_law 494 = .ok (.aload_n 1, 1) := by decide +kernel
theorem dL_law_495 : decode cL_law 495 = .ok (.aload_n 0, 1) := by decide +kernel
theorem dL_law_496 : decode cL_law 496 = .ok (.iload_n 3, 1) := by decide +kernel
theorem dL_law_497 : decode cL_law 497 = .ok (.iconst 1, 1) := by decide +kernel
theorem dL_law_498 : decode cL_law 498 = .ok (.iadd, 1) := by decide +kernel
theorem dL_law_499 : decode cL_law 499 = .ok (.iaload, 1) := by decide +kernel
theorem dL_law_500 : decode cL_law 500 = .ok (.aload_n 0, 1) := by decide +kernel
theorem dL_law_501 : decode cL_law 501 = .ok (.iload_n 3, 1) := by decide +kernel
theorem dL_law_502 : decode cL_law 502 = .ok (.iconst 2, 1) := by decide +kernel
theorem dL_law_503 : decode cL_law 503 = .ok (.iadd, 1) := by decide +kernel
theorem dL_law_504 : decode cL_law 504 = .ok (.iaload, 1) := by decide +kernel
theorem dL_law_505 : decode cL_law 505 = .ok (.aload_n 0, 1) := by decide +kernel
theorem dL_law_506 : decode cL_law 506 = .ok (.iload_n 3, 1) := by decide +kernel
theorem dL_law_507 : decode cL_law 507 = .ok (.iconst 3, 1) := by decide +kernel
theorem dL_law_508 : decode cL_law 508 = .ok (.iadd, 1) := by decide +kernel
theorem dL_law_509 : decode cL_law 509 = .ok (.iaload, 1) := by decide +kernel
theorem dL_law_510 : decode cL_law 510 = .ok (.invokevirtual 49, 3) := by decide +kernel
theorem dL_law_513 : decode cL_law 513 = .ok (.pop, 1) := by decide +kernel
theorem dL_law_514 : decode cL_law 514 = .ok (.aload_n 2, 1) := by decide +kernel
theorem dL_law_515 : decode cL_law 515 = .ok (.aload_n 0, 1) := by decide +kernel
theorem dL_law_516 : decode cL_law 516 = .ok (.iload_n 3, 1) := by decide +kernel
theorem dL_law_517 : decode cL_law 517 = .ok (.iconst 1, 1) := by decide +kernel
theorem dL_law_518 : decode cL_law 518 = .ok (.iadd, 1) := by decide +kernel
theorem dL_law_519 : decode cL_law 519 = .ok (.iaload, 1) := by decide +kernel
theorem dL_law_520 : decode cL_law 520 = .ok (.aload_n 0, 1) := by decide +kernel
theorem dL_law_521 : decode cL_law 521 = .ok (.iload_n 3, 1) := by decide +kernel
theorem dL_law_522 : decode cL_law 522 = .ok (.iconst 2, 1) := by decide +kernel
theorem dL_law_523 : decode cL_law 523 = .ok (.iadd, 1) := by decide +kernel
theorem dL_law_524 : decode cL_law 524 = .ok (.iaload, 1) := by decide +kernel
theorem dL_law_525 : decode cL_law 525 = .ok (.aload_n 0, 1) := by decide +kernel
theorem dL_law_526 : decode cL_law 526 = .ok (.iload_n 3, 1) := by decide +kernel
theorem dL_law_527 : decode cL_law 527 = .ok (.iconst 3, 1) := by decide +kernel
theorem dL_law_528 : decode cL_law 528 = .ok (.iadd, 1) := by decide +kernel
theorem dL_law_529 : decode cL_law 529 = .ok (.iaload, 1) := by decide +kernel
theorem dL_law_530 : decode cL_law 530 = .ok (.invokevirtual 52, 3) := by decide +kernel
theorem dL_law_533 : decode cL_law 533 = .ok (.pop, 1) := by decide +kernel
theorem dL_law_534 : decode cL_law 534 = .ok (.goto 781, 3) := by decide +kernel
theorem dL_law_537 : decode cL_law 537 = .ok (.aload_n 1, 1) := by decide +kernel
theorem dL_law_538 : decode cL_law 538 = .ok (.aload_n 0, 1) := by decide +kernel
theorem dL_law_539 : decode cL_law 539 = .ok (.iload_n 3, 1) := by decide +kernel
theorem dL_law_540 : decode cL_law 540 = .ok (.iconst 1, 1) := by decide +kernel
theorem dL_law_541 : decode cL_law 541 = .ok (.iadd, 1) := by decide +kernel
theorem dL_law_542 : decode cL_law 542 = .ok (.iaload, 1) := by decide +kernel
theorem dL_law_543 : decode cL_law 543 = .ok (.aload_n 0, 1) := by decide +kernel
theorem dL_law_544 : decode cL_law 544 = .ok (.iload_n 3, 1) := by decide +kernel
theorem dL_law_545 : decode cL_law 545 = .ok (.iconst 2, 1) := by decide +kernel
theorem dL_law_546 : decode cL_law 546 = .ok (.iadd, 1) := by decide +kernel
theorem dL_law_547 : decode cL_law 547 = .ok (.iaload, 1) := by decide +kernel
theorem dL_law_548 : decode cL_law 548 = .ok (.aload_n 0, 1) := by decide +kernel
theorem dL_law_549 : decode cL_law 549 = .ok (.iload_n 3, 1) := by decide +kernel
theorem dL_law_550 : decode cL_law 550 = .ok (.iconst 3, 1) := by decide +kernel
theorem dL_law_551 : decode cL_law 551 = .ok (.iadd, 1) := by decide +kernel
theorem dL_law_552 : decode cL_law 552 = .ok (.iaload, 1) := by decide +kernel
theorem dL_law_553 : decode cL_law 553 = .ok (.invokevirtual 53, 3) := by decide +kernel
theorem dL_law_556 : decode cL_law 556 = .ok (.pop, 1) := by decide +kernel
theorem dL_law_557 : decode cL_law 557 = .ok (.aload_n 2, 1) := by decide +kernel
theorem dL_law_558 : decode cL_law 558 = .ok (.aload_n 0, 1) := by decide +kernel
theorem dL_law_559 : decode cL_law 559 = .ok (.iload_n 3, 1) := by decide +kernel
theorem dL_law_560 : decode cL_law 560 = .ok (.iconst 1, 1) := by decide +kernel
theorem dL_law_561 : decode cL_law 561 = .ok (.iadd, 1) := by decide +kernel
theorem dL_law_562 : decode cL_law 562 = .ok (.iaload, 1) := by decide +kernel
theorem dL_law_563 : decode cL_law 563 = .ok (.aload_n 0, 1) := by decide +kernel
theorem dL_law_564 : decode cL_law 564 = .ok (.iload_n 3, 1) := by decide +kernel
theorem dL_law_565 : decode cL_law 565 = .ok (.iconst 2, 1) := by decide +kernel
theorem dL_law_566 : decode cL_law 566 = .ok (.iadd, 1) := by decide +kernel
theorem dL_law_567 : decode cL_law 567 = .ok (.iaload, 1) := by decide +kernel
theorem dL_law_568 : decode cL_law 568 = .ok (.aload_n 0, 1) := by decide +kernel
theorem dL_law_569 : decode cL_law 569 = .ok (.iload_n 3, 1) := by decide +kernel
theorem dL_law_570 : decode cL_law 570 = .ok (.iconst 3, 1) := by decide +kernel
theorem dL_law_571 : decode cL_law 571 = .ok (.iadd, 1) := by decide +kernel
theorem dL_law_572 : decode cL_law 572 = .ok (.iaload, 1) := by decide +kernel
theorem dL_law_573 : decode cL_law 573 = .ok (.invokevirtual 56, 3) := by decide +kernel
theorem dL_law_576 : decode cL_law 576 = .ok (.pop, 1) := by decide +kernel
theorem dL_law_577 : decode cL_law 577 = .ok (.goto 738, 3) := by decide +kernel
theorem dL_law_580 : decode cL_law 580 = .ok (.aload_n 1, 1) := by decide +kernel
theorem dL_law_581 : decode cL_law 581 = .ok (.aload_n 0, 1) := by decide +kernel
theorem dL_law_582 : decode cL_law 582 = .ok (.iload_n 3, 1) := by decide +kernel
theorem dL_law_583 : decode cL_law 583 = .ok (.iconst 1, 1) := by decide +kernel
theorem dL_law_584 : decode cL_law 584 = .ok (.iadd, 1) := by decide +kernel
theorem dL_law_585 : decode cL_law 585 = .ok (.iaload, 1) := by decide +kernel
theorem dL_law_586 : decode cL_law 586 = .ok (.aload_n 0, 1) := by decide +kernel
theorem dL_law_587 : decode cL_law 587 = .ok (.iload_n 3, 1) := by decide +kernel
theorem dL_law_588 : decode cL_law 588 = .ok (.iconst 2, 1) := by decide +kernel
theorem dL_law_589 : decode cL_law 589 = .ok (.iadd, 1) := by decide +kernel
theorem dL_law_590 : decode cL_law 590 = .ok (.iaload, 1) := by decide +kernel
theorem dL_law_591 : decode cL_law 591 = .ok (.aload_n 0, 1) := by decide +kernel
theorem dL_law_592 : decode cL_law 592 = .ok (.iload_n 3, 1) := by decide +kernel
theorem dL_law_593 : decode cL_law 593 = .ok (.iconst 3, 1) := by decide +kernel
theorem dL_law_594 : decode cL_law 594 = .ok (.iadd, 1) := by decide +kernel
theorem dL_law_595 : decode cL_law 595 = .ok (.iaload, 1) := by decide +kernel
theorem dL_law_596 : decode cL_law 596 = .ok (.aload_n 0, 1) := by decide +kernel
theorem dL_law_597 : decode cL_law 597 = .ok (.iload_n 3, 1) := by decide +kernel
theorem dL_law_598 : decode cL_law 598 = .ok (.iconst 4, 1) := by decide +kernel
theorem dL_law_599 : decode cL_law 599 = .ok (.iadd, 1) := by decide +kernel
theorem dL_law_600 : decode cL_law 600 = .ok (.iaload, 1) := by decide +kernel
theorem dL_law_601 : decode cL_law 601 = .ok (.invokevirtual 57, 3) := by decide +kernel
theorem dL_law_604 : decode cL_law 604 = .ok (.pop, 1) := by decide +kernel
theorem dL_law_605 : decode cL_law 605 = .ok (.aload_n 2, 1) := by decide +kernel
theorem dL_law_606 : decode cL_law 606 = .ok (.aload_n 0, 1) := by decide +kernel
theorem dL_law_607 : decode cL_law 607 = .ok (.iload_n 3, 1) := by decide +kernel
theorem dL_law_608 : decode cL_law 608 = .ok (.iconst 1, 1) := by decide +kernel
theorem dL_law_609 : decode cL_law 609 = .ok (.iadd, 1) := by decide +kernel
theorem dL_law_610 : decode cL_law 610 = .ok (.iaload, 1) := by decide +kernel
theorem dL_law_611 : decode cL_law 611 = .ok (.aload_n 0, 1) := by decide +kernel
theorem dL_law_612 : decode cL_law 612 = .ok (.iload_n 3, 1) := by decide +kernel
theorem dL_law_613 : decode cL_law 613 = .ok (.iconst 2, 1) := by decide +kernel
theorem dL_law_614 : decode cL_law 614 = .ok (.iadd, 1) := by decide +kernel
theorem dL_law_615 : decode cL_law 615 = .ok (.iaload, 1) := by decide +kernel
theorem dL_law_616 : decode cL_law 616 = .ok (.aload_n 0, 1) := by decide +kernel
theorem dL_law_617 : decode cL_law 617 = .ok (.iload_n 3, 1) := by decide +kernel
theorem dL_law_618 : decode cL_law 618 = .ok (.iconst 3, 1) := by decide +kernel
theorem dL_law_619 : decode cL_law 619 = .ok (.iadd, 1) := by decide +kernel
theorem dL_law_620 : decode cL_law 620 = .ok (.iaload, 1) := by decide +kernel
theorem dL_law_621 : decode cL_law 621 = .ok (.aload_n 0, 1) := by decide +kernel
theorem dL_law_622 : decode cL_law 622 = .ok (.iload_n 3, 1) := by decide +kernel
theorem dL_law_623 : decode cL_law 623 = .ok (.iconst 4, 1) := by decide +kernel
theorem dL_law_624 : decode cL_law 624 = .ok (.iadd, 1) := by decide +kernel
theorem dL_law_625 : decode cL_law 625 = .ok (.iaload, 1) := by decide +kernel
theorem dL_law_626 : decode cL_law 626 = .ok (.invokevirtual 60, 3) := by decide +kernel
theorem dL_law_629 : decode cL_law 629 = .ok (.pop, 1) := by decide +kernel
theorem dL_law_630 : decode cL_law 630 = .ok (.goto 685, 3) := by decide +kernel
theorem dL_law_633 : decode cL_law 633 = .ok (.aload_n 1, 1) := by decide +kernel
theorem dL_law_634 : decode cL_law 634 = .ok (.aload_n 0, 1) := by decide +kernel
theorem dL_law_635 : decode cL_law 635 = .ok (.iload_n 3, 1) := by decide +kernel
theorem dL_law_636 : decode cL_law 636 = .ok (.iconst 1, 1) := by decide +kernel
theorem dL_law_637 : decode cL_law 637 = .ok (.iadd, 1) := by decide +kernel
theorem dL_law_638 : decode cL_law 638 = .ok (.iaload, 1) := by decide +kernel
theorem dL_law_639 : decode cL_law 639 = .ok (.aload_n 0, 1) := by decide +kernel
theorem dL_law_640 : decode cL_law 640 = .ok (.iload_n 3, 1) := by decide +kernel
theorem dL_law_641 : decode cL_law 641 = .ok (.iconst 2, 1) := by decide +kernel
theorem dL_law_642 : decode cL_law 642 = .ok (.iadd, 1) := by decide +kernel
theorem dL_law_643 : decode cL_law 643 = .ok (.iaload, 1) := by decide +kernel
theorem dL_law_644 : decode cL_law 644 = .ok (.aload_n 0, 1) := by decide +kernel
theorem dL_law_645 : decode cL_law 645 = .ok (.iload_n 3, 1) := by decide +kernel
theorem dL_law_646 : decode cL_law 646 = .ok (.iconst 3, 1) := by decide +kernel
theorem dL_law_647 : decode cL_law 647 = .ok (.iadd, 1) := by decide +kernel
theorem dL_law_648 : decode cL_law 648 = .ok (.iaload, 1) := by decide +kernel
theorem dL_law_649 : decode cL_law 649 = .ok (.aload_n 0, 1) := by decide +kernel
theorem dL_law_650 : decode cL_law 650 = .ok (.iload_n 3, 1) := by decide +kernel
theorem dL_law_651 : decode cL_law 651 = .ok (.iconst 4, 1) := by decide +kernel
theorem dL_law_652 : decode cL_law 652 = .ok (.iadd, 1) := by decide +kernel
theorem dL_law_653 : decode cL_law 653 = .ok (.iaload, 1) := by decide +kernel
theorem dL_law_654 : decode cL_law 654 = .ok (.aload_n 0, 1) := by decide +kernel
theorem dL_law_655 : decode cL_law 655 = .ok (.iload_n 3, 1) := by decide +kernel
theorem dL_law_656 : decode cL_law 656 = .ok (.iconst 5, 1) := by decide +kernel
theorem dL_law_657 : decode cL_law 657 = .ok (.iadd, 1) := by decide +kernel
theorem dL_law_658 : decode cL_law 658 = .ok (.iaload, 1) := by decide +kernel
theorem dL_law_659 : decode cL_law 659 = .ok (.invokevirtual 61, 3) := by decide +kernel
theorem dL_law_662 : decode cL_law 662 = .ok (.pop, 1) := by decide +kernel
theorem dL_law_663 : decode cL_law 663 = .ok (.aload_n 2, 1) := by decide +kernel
theorem dL_law_664 : decode cL_law 664 = .ok (.aload_n 0, 1) := by decide +kernel
theorem dL_law_665 : decode cL_law 665 = .ok (.iload_n 3, 1) := by decide +kernel
theorem dL_law_666 : decode cL_law 666 = .ok (.iconst 1, 1) := by decide +kernel
theorem dL_law_667 : decode cL_law 667 = .ok (.iadd, 1) := by decide +kernel
theorem dL_law_668 : decode cL_law 668 = .ok (.iaload, 1) := by decide +kernel
theorem dL_law_669 : decode cL_law 669 = .ok (.aload_n 0, 1) := by decide +kernel
theorem dL_law_670 : decode cL_law 670 = .ok (.iload_n 3, 1) := by decide +kernel
theorem dL_law_671 : decode cL_law 671 = .ok (.iconst 2, 1) := by decide +kernel
theorem dL_law_672 : decode cL_law 672 = .ok (.iadd, 1) := by decide +kernel
theorem dL_law_673 : decode cL_law 673 = .ok (.iaload, 1) := by decide +kernel
theorem dL_law_674 : decode cL_law 674 = .ok (.aload_n 0, 1) := by decide +kernel
theorem dL_law_675 : decode cL_law 675 = .ok (.iload_n 3, 1) := by decide +kernel
theorem dL_law_676 : decode cL_law 676 = .ok (.iconst 3, 1) := by decide +kernel
theorem dL_law_677 : decode cL_law 677 = .ok (.iadd, 1) := by decide +kernel
theorem dL_law_678 : decode cL_law 678 = .ok (.iaload, 1) := by decide +kernel
theorem dL_law_679 : decode cL_law 679 = .ok (.aload_n 0, 1) := by decide +kernel
theorem dL_law_680 : decode cL_law 680 = .ok (.iload_n 3, 1) := by decide +kernel
theorem dL_law_681 : decode cL_law 681 = .ok (.iconst 4, 1) := by decide +kernel
theorem dL_law_682 : decode cL_law 682 = .ok (.iadd, 1) := by decide +kernel
theorem dL_law_683 : decode cL_law 683 = .ok (.iaload, 1) := by decide +kernel
theorem dL_law_684 : decode cL_law 684 = .ok (.aload_n 0, 1) := by decide +kernel
theorem dL_law_685 : decode cL_law 685 = .ok (.iload_n 3, 1) := by decide +kernel
theorem dL_law_686 : decode cL_law 686 = .ok (.iconst 5, 1) := by decide +kernel
theorem dL_law_687 : decode cL_law 687 = .ok (.iadd, 1) := by decide +kernel
theorem dL_law_688 : decode cL_law 688 = .ok (.iaload, 1) := by decide +kernel
theorem dL_law_689 : decode cL_law 689 = .ok (.invokevirtual 65, 3) := by decide +kernel
theorem dL_law_692 : decode cL_law 692 = .ok (.pop, 1) := by decide +kernel
theorem dL_law_693 : decode cL_law 693 = .ok (.goto 622, 3) := by decide +kernel
theorem dL_law_696 : decode cL_law 696 = .ok (.aload_n 1, 1) := by decide +kernel
theorem dL_law_697 : decode cL_law 697 = .ok (.aload_n 0, 1) := by decide +kernel
theorem dL_law_698 : decode cL_law 698 = .ok (.iload_n 3, 1) := by decide +kernel
theorem dL_law_699 : decode cL_law 699 = .ok (.iconst 1, 1) := by decide +kernel
theorem dL_law_700 : decode cL_law 700 = .ok (.iadd, 1) := by decide +kernel
theorem dL_law_701 : decode cL_law 701 = .ok (.iaload, 1) := by decide +kernel
theorem dL_law_702 : decode cL_law 702 = .ok (.invokevirtual 66, 3) := by decide +kernel
theorem dL_law_705 : decode cL_law 705 = .ok (.pop, 1) := by decide +kernel
theorem dL_law_706 : decode cL_law 706 = .ok (.aload_n 2, 1) := by decide +kernel
theorem dL_law_707 : decode cL_law 707 = .ok (.aload_n 0, 1) := by decide +kernel
theorem dL_law_708 : decode cL_law 708 = .ok (.iload_n 3, 1) := by decide +kernel
theorem dL_law_709 : decode cL_law 709 = .ok (.iconst 1, 1) := by decide +kernel
theorem dL_law_710 : decode cL_law 710 = .ok (.iadd, 1) := by decide +kernel
theorem dL_law_711 : decode cL_law 711 = .ok (.iaload, 1) := by decide +kernel
theorem dL_law_712 : decode cL_law 712 = .ok (.invokevirtual 69, 3) := by decide +kernel
theorem dL_law_715 : decode cL_law 715 = .ok (.pop, 1) := by decide +kernel
theorem dL_law_716 : decode cL_law 716 = .ok (.goto 599, 3) := by decide +kernel
theorem dL_law_719 : decode cL_law 719 = .ok (.aload_n 1, 1) := by decide +kernel
theorem dL_law_720 : decode cL_law 720 = .ok (.aload_n 0, 1) := by decide +kernel
theorem dL_law_721 : decode cL_law 721 = .ok (.iload_n 3, 1) := by decide +kernel
theorem dL_law_722 : decode cL_law 722 = .ok (.iconst 1, 1) := by decide +kernel
theorem dL_law_723 : decode cL_law 723 = .ok (.iadd, 1) := by decide +kernel
theorem dL_law_724 : decode cL_law 724 = .ok (.iaload, 1) := by decide +kernel
theorem dL_law_725 : decode cL_law 725 = .ok (.invokevirtual 70, 3) := by decide +kernel
theorem dL_law_728 : decode cL_law 728 = .ok (.pop, 1) := by decide +kernel
theorem dL_law_729 : decode cL_law 729 = .ok (.aload_n 2, 1) := by decide +kernel
theorem dL_law_730 : decode cL_law 730 = .ok (.aload_n 0, 1) := by decide +kernel
theorem dL_law_731 : decode cL_law 731 = .ok (.iload_n 3, 1) := by decide +kernel
theorem dL_law_732 : decode cL_law 732 = .ok (.iconst 1, 1) := by decide +kernel
theorem dL_law_733 : decode cL_law 733 = .ok (.iadd, 1) := by decide +kernel
theorem dL_law_734 : decode cL_law 734 = .ok (.iaload, 1) := by decide +kernel
theorem dL_law_735 : decode cL_law 735 = .ok (.invokevirtual 73, 3) := by decide +kernel
theorem dL_law_738 : decode cL_law 738 = .ok (.pop, 1) := by decide +kernel
theorem dL_law_739 : decode cL_law 739 = .ok (.goto 576, 3) := by decide +kernel
theorem dL_law_742 : decode cL_law 742 = .ok (.aload_n 1, 1) := by decide +kernel
theorem dL_law_743 : decode cL_law 743 = .ok (.aload_n 0, 1) := by decide +kernel
theorem dL_law_744 : decode cL_law 744 = .ok (.iload_n 3, 1) := by decide +kernel
theorem dL_law_745 : decode cL_law 745 = .ok (.iconst 1, 1) := by decide +kernel
theorem dL_law_746 : decode cL_law 746 = .ok (.iadd, 1) := by decide +kernel
theorem dL_law_747 : decode cL_law 747 = .ok (.iaload, 1) := by decide +kernel
theorem dL_law_748 : decode cL_law 748 = .ok (.invokevirtual 74, 3) := by decide +kernel
theorem dL_law_751 : decode cL_law 751 = .ok (.aload_n 2, 1) := by decide +kernel
theorem dL_law_752 : decode cL_law 752 = .ok (.aload_n 0, 1) := by decide +kernel
theorem dL_law_753 : decode cL_law 753 = .ok (.iload_n 3, 1) := by decide +kernel
theorem dL_law_754 : decode cL_law 754 = .ok (.iconst 1, 1) := by decide +kernel
theorem dL_law_755 : decode cL_law 755 = .ok (.iadd, 1) := by decide +kernel
theorem dL_law_756 : decode cL_law 756 = .ok (.iaload, 1) := by decide +kernel
theorem dL_law_757 : decode cL_law 757 = .ok (.invokevirtual 78, 3) := by decide +kernel
theorem dL_law_760 : decode cL_law 760 = .ok (.if_icmp .eq 555, 3) := by decide +kernel
theorem dL_law_763 : decode cL_law 763 = .ok (.iconst 0, 1) := by decide +kernel
theorem dL_law_764 : decode cL_law 764 = .ok (.ireturn, 1) := by decide +kernel
theorem dL_law_765 : decode cL_law 765 = .ok (.aload_n 1, 1) := by decide +kernel
theorem dL_law_766 : decode cL_law 766 = .ok (.invokevirtual 79, 3) := by decide +kernel
theorem dL_law_769 : decode cL_law 769 = .ok (.pop, 1) := by decide +kernel
theorem dL_law_770 : decode cL_law 770 = .ok (.aload_n 2, 1) := by decide +kernel
theorem dL_law_771 : decode cL_law 771 = .ok (.invokevirtual 83, 3) := by decide +kernel
theorem dL_law_774 : decode cL_law 774 = .ok (.pop, 1) := by decide +kernel
theorem dL_law_775 : decode cL_law 775 = .ok (.goto 540, 3) := by decide +kernel
theorem dL_law_778 : decode cL_law 778 = .ok (.aload_n 1, 1) := by decide +kernel
theorem dL_law_779 : decode cL_law 779 = .ok (.aload_n 0, 1) := by decide +kernel
theorem dL_law_780 : decode cL_law 780 = .ok (.iload_n 3, 1) := by decide +kernel
theorem dL_law_781 : decode cL_law 781 = .ok (.iconst 1, 1) := by decide +kernel
theorem dL_law_782 : decode cL_law 782 = .ok (.iadd, 1) := by decide +kernel
theorem dL_law_783 : decode cL_law 783 = .ok (.iaload, 1) := by decide +kernel
theorem dL_law_784 : decode cL_law 784 = .ok (.invokevirtual 84, 3) := by decide +kernel
theorem dL_law_787 : decode cL_law 787 = .ok (.pop, 1) := by decide +kernel
theorem dL_law_788 : decode cL_law 788 = .ok (.aload_n 2, 1) := by decide +kernel
theorem dL_law_789 : decode cL_law 789 = .ok (.aload_n 0, 1) := by decide +kernel
theorem dL_law_790 : decode cL_law 790 = .ok (.iload_n 3, 1) := by decide +kernel
theorem dL_law_791 : decode cL_law 791 = .ok (.iconst 1, 1) := by decide +kernel
theorem dL_law_792 : decode cL_law 792 = .ok (.iadd, 1) := by decide +kernel
theorem dL_law_793 : decode cL_law 793 = .ok (.iaload, 1) := by decide +kernel
theorem dL_law_794 : decode cL_law 794 = .ok (.invokevirtual 87, 3) := by decide +kernel
theorem dL_law_797 : decode cL_law 797 = .ok (.pop, 1) := by decide +kernel
theorem dL_law_798 : decode cL_law 798 = .ok (.goto 517, 3) := by decide +kernel
theorem dL_law_801 : decode cL_law 801 = .ok (.aload_n 1, 1) := by decide +kernel
theorem dL_law_802 : decode cL_law 802 = .ok (.invokevirtual 88, 3) := by decide +kernel
theorem dL_law_805 : decode cL_law 805 = .ok (.pop, 1) := by decide +kernel
theorem dL_law_806 : decode cL_law 806 = .ok (.aload_n 2, 1) := by decide +kernel
theorem dL_law_807 : decode cL_law 807 = .ok (.invokevirtual 91, 3) := by decide +kernel
theorem dL_law_810 : decode cL_law 810 = .ok (.pop, 1) := by decide +kernel
theorem dL_law_811 : decode cL_law 811 = .ok (.goto 504, 3) := by decide +kernel
theorem dL_law_814 : decode cL_law 814 = .ok (.aload_n 1, 1) := by decide +kernel
theorem dL_law_815 : decode cL_law 815 = .ok (.aload_n 0, 1) := by decide +kernel
theorem dL_law_816 : decode cL_law 816 = .ok (.iload_n 3, 1) := by decide +kernel
theorem dL_law_817 : decode cL_law 817 = .ok (.iconst 1, 1) := by decide +kernel
theorem dL_law_818 : decode cL_law 818 = .ok (.iadd, 1) := by decide +kernel
theorem dL_law_819 : decode cL_law 819 = .ok (.iaload, 1) := by decide +kernel
theorem dL_law_820 : decode cL_law 820 = .ok (.aload_n 0, 1) := by decide +kernel
theorem dL_law_821 : decode cL_law 821 = .ok (.iload_n 3, 1) := by decide +kernel
theorem dL_law_822 : decode cL_law 822 = .ok (.iconst 2, 1) := by decide +kernel
theorem dL_law_823 : decode cL_law 823 = .ok (.iadd, 1) := by decide +kernel
theorem dL_law_824 : decode cL_law 824 = .ok (.iaload, 1) := by decide +kernel
theorem dL_law_825 : decode cL_law 825 = .ok (.invokevirtual 92, 3) := by decide +kernel
theorem dL_law_828 : decode cL_law 828 = .ok (.pop, 1) := by decide +kernel
theorem dL_law_829 : decode cL_law 829 = .ok (.aload_n 2, 1) := by decide +kernel
theorem dL_law_830 : decode cL_law 830 = .ok (.aload_n 0, 1) := by decide +kernel
theorem dL_law_831 : decode cL_law 831 = .ok (.iload_n 3, 1) := by decide +kernel
theorem dL_law_832 : decode cL_law 832 = .ok (.iconst 1, 1) := by decide +kernel
theorem dL_law_833 : decode cL_law 833 = .ok (.iadd, 1) := by decide +kernel
theorem dL_law_834 : decode cL_law 834 = .ok (.iaload, 1) := by decide +kernel
theorem dL_law_835 : decode cL_law 835 = .ok (.aload_n 0, 1) := by decide +kernel
theorem dL_law_836 : decode cL_law 836 = .ok (.iload_n 3, 1) := by decide +kernel
theorem dL_law_837 : decode cL_law 837 = .ok (.iconst 2, 1) := by decide +kernel
theorem dL_law_838 : decode cL_law 838 = .ok (.iadd, 1) := by decide +kernel
theorem dL_law_839 : decode cL_law 839 = .ok (.iaload, 1) := by decide +kernel
theorem dL_law_840 : decode cL_law 840 = .ok (.invokevirtual 96, 3) := by decide +kernel
theorem dL_law_843 : decode cL_law 843 = .ok (.pop, 1) := by decide +kernel
theorem dL_law_844 : decode cL_law 844 = .ok (.goto 471, 3) := by decide +kernel
theorem dL_law_847 : decode cL_law 847 = .ok (.aload_n 1, 1) := by decide +kernel
theorem dL_law_848 : decode cL_law 848 = .ok (.aload_n 0, 1) := by decide +kernel
theorem dL_law_849 : decode cL_law 849 = .ok (.iload_n 3, 1) := by decide +kernel
theorem dL_law_850 : decode cL_law 850 = .ok (.iconst 1, 1) := by decide +kernel
theorem dL_law_851 : decode cL_law 851 = .ok (.iadd, 1) := by decide +kernel
theorem dL_law_852 : decode cL_law 852 = .ok (.iaload, 1) := by decide +kernel
theorem dL_law_853 : decode cL_law 853 = .ok (.aload_n 0, 1) := by decide +kernel
theorem dL_law_854 : decode cL_law 854 = .ok (.iload_n 3, 1) := by decide +kernel
theorem dL_law_855 : decode cL_law 855 = .ok (.iconst 2, 1) := by decide +kernel
theorem dL_law_856 : decode cL_law 856 = .ok (.iadd, 1) := by decide +kernel
theorem dL_law_857 : decode cL_law 857 = .ok (.iaload, 1) := by decide +kernel
theorem dL_law_858 : decode cL_law 858 = .ok (.invokevirtual 97, 3) := by decide +kernel
theorem dL_law_861 : decode cL_law 861 = .ok (.pop, 1) := by decide +kernel
theorem dL_law_862 : decode cL_law 862 = .ok (.aload_n 2, 1) := by decide +kernel
theorem dL_law_863 : decode cL_law 863 = .ok (.aload_n 0, 1) := by decide +kernel
theorem dL_law_864 : decode cL_law 864 = .ok (.iload_n 3, 1) := by decide +kernel
theorem dL_law_865 : decode cL_law 865 = .ok (.iconst 1, 1) := by decide +kernel
theorem dL_law_866 : decode cL_law 866 = .ok (.iadd, 1) := by decide +kernel
theorem dL_law_867 : decode cL_law 867 = .ok (.iaload, 1) := by decide +kernel
theorem dL_law_868 : decode cL_law 868 = .ok (.aload_n 0, 1) := by decide +kernel
theorem dL_law_869 : decode cL_law 869 = .ok (.iload_n 3, 1) := by decide +kernel
theorem dL_law_870 : decode cL_law 870 = .ok (.iconst 2, 1) := by decide +kernel
theorem dL_law_871 : decode cL_law 871 = .ok (.iadd, 1) := by decide +kernel
theorem dL_law_872 : decode cL_law 872 = .ok (.iaload, 1) := by decide +kernel
theorem dL_law_873 : decode cL_law 873 = .ok (.invokevirtual 100, 3) := by decide +kernel
theorem dL_law_876 : decode cL_law 876 = .ok (.pop, 1) := by decide +kernel
theorem dL_law_877 : decode cL_law 877 = .ok (.goto 438, 3) := by decide +kernel
theorem dL_law_880 : decode cL_law 880 = .ok (.aload_n 1, 1) := by decide +kernel
theorem dL_law_881 : decode cL_law 881 = .ok (.aload_n 0, 1) := by decide +kernel
theorem dL_law_882 : decode cL_law 882 = .ok (.iload_n 3, 1) := by decide +kernel
theorem dL_law_883 : decode cL_law 883 = .ok (.iconst 1, 1) := by decide +kernel
theorem dL_law_884 : decode cL_law 884 = .ok (.iadd, 1) := by decide +kernel
theorem dL_law_885 : decode cL_law 885 = .ok (.iaload, 1) := by decide +kernel
theorem dL_law_886 : decode cL_law 886 = .ok (.aload_n 0, 1) := by decide +kernel
theorem dL_law_887 : decode cL_law 887 = .ok (.iload_n 3, 1) := by decide +kernel
theorem dL_law_888 : decode cL_law 888 = .ok (.iconst 2, 1) := by decide +kernel
theorem dL_law_889 : decode cL_law 889 = .ok (.iadd, 1) := by decide +kernel
theorem dL_law_890 : decode cL_law 890 = .ok (.iaload, 1) := by decide +kernel
theorem dL_law_891 : decode cL_law 891 = .ok (.aload_n 0, 1) := by decide +kernel
theorem dL_law_892 : decode cL_law 892 = .ok (.iload_n 3, 1) := by decide +kernel
theorem dL_law_893 : decode cL_law 893 = .ok (.iconst 3, 1) := by decide +kernel
theorem dL_law_894 : decode cL_law 894 = .ok (.iadd, 1) := by decide +kernel
theorem dL_law_895 : decode cL_law 895 = .ok (.iaload, 1) := by decide +kernel
theorem dL_law_896 : decode cL_law 896 = .ok (.invokevirtual 101, 3) := by decide +kernel
theorem dL_law_899 : decode cL_law 899 = .ok (.pop, 1) := by decide +kernel
theorem dL_law_900 : decode cL_law 900 = .ok (.aload_n 2, 1) := by decide +kernel
theorem dL_law_901 : decode cL_law 901 = .ok (.aload_n 0, 1) := by decide +kernel
theorem dL_law_902 : decode cL_law 902 = .ok (.iload_n 3, 1) := by decide +kernel
theorem dL_law_903 : decode cL_law 903 = .ok (.iconst 1, 1) := by decide +kernel
theorem dL_law_904 : decode cL_law 904 = .ok (.iadd, 1) := by decide +kernel
theorem dL_law_905 : decode cL_law 905 = .ok (.iaload, 1) := by decide +kernel
theorem dL_law_906 : decode cL_law 906 = .ok (.aload_n 0, 1) := by decide +kernel
theorem dL_law_907 : decode cL_law 907 = .ok (.iload_n 3, 1) := by decide +kernel
theorem dL_law_908 : decode cL_law 908 = .ok (.iconst 2, 1) := by decide +kernel
theorem dL_law_909 : decode cL_law 909 = .ok (.iadd, 1) := by decide +kernel
theorem dL_law_910 : decode cL_law 910 = .ok (.iaload, 1) := by decide +kernel
theorem dL_law_911 : decode cL_law 911 = .ok (.aload_n 0, 1) := by decide +kernel
theorem dL_law_912 : decode cL_law 912 = .ok (.iload_n 3, 1) := by decide +kernel
theorem dL_law_913 : decode cL_law 913 = .ok (.iconst 3, 1) := by decide +kernel
theorem dL_law_914 : decode cL_law 914 = .ok (.iadd, 1) := by decide +kernel
theorem dL_law_915 : decode cL_law 915 = .ok (.iaload, 1) := by decide +kernel
theorem dL_law_916 : decode cL_law 916 = .ok (.invokevirtual 105, 3) := by decide +kernel
theorem dL_law_919 : decode cL_law 919 = .ok (.pop, 1) := by decide +kernel
theorem dL_law_920 : decode cL_law 920 = .ok (.goto 395, 3) := by decide +kernel
theorem dL_law_923 : decode cL_law 923 = .ok (.aload_n 1, 1) := by decide +kernel
theorem dL_law_924 : decode cL_law 924 = .ok (.aload_n 0, 1) := by decide +kernel
theorem dL_law_925 : decode cL_law 925 = .ok (.iload_n 3, 1) := by decide +kernel
theorem dL_law_926 : decode cL_law 926 = .ok (.iconst 1, 1) := by decide +kernel
theorem dL_law_927 : decode cL_law 927 = .ok (.iadd, 1) := by decide +kernel
theorem dL_law_928 : decode cL_law 928 = .ok (.iaload, 1) := by decide +kernel
theorem dL_law_929 : decode cL_law 929 = .ok (.invokevirtual 106, 3) := by decide +kernel
theorem dL_law_932 : decode cL_law 932 = .ok (.pop, 1) := by decide +kernel
theorem dL_law_933 : decode cL_law 933 = .ok (.aload_n 2, 1) := by decide +kernel
theorem dL_law_934 : decode cL_law 934 = .ok (.aload_n 0, 1) := by decide +kernel
theorem dL_law_935 : decode cL_law 935 = .ok (.iload_n 3, 1) := by decide +kernel
theorem dL_law_936 : decode cL_law 936 = .ok (.iconst 1, 1) := by decide +kernel
theorem dL_law_937 : decode cL_law 937 = .ok (.iadd, 1) := by decide +kernel
theorem dL_law_938 : decode cL_law 938 = .ok (.iaload, 1) := by decide +kernel
theorem dL_law_939 : decode cL_law 939 = .ok (.invokevirtual 109, 3) := by decide +kernel
theorem dL_law_942 : decode cL_law 942 = .ok (.pop, 1) := by decide +kernel
theorem dL_law_943 : decode cL_law 943 = .ok (.goto 372, 3) := by decide +kernel
theorem dL_law_946 : decode cL_law 946 = .ok (.aload_n 1, 1) := by decide +kernel
theorem dL_law_947 : decode cL_law 947 = .ok (.aload_n 0, 1) := by decide +kernel
theorem dL_law_948 : decode cL_law 948 = .ok (.iload_n 3, 1) := by decide +kernel
theorem dL_law_949 : decode cL_law 949 = .ok (.iconst 1, 1) := by decide +kernel
theorem dL_law_950 : decode cL_law 950 = .ok (.iadd, 1) := by decide +kernel
theorem dL_law_951 : decode cL_law 951 = .ok (.iaload, 1) := by decide +kernel
theorem dL_law_952 : decode cL_law 952 = .ok (.aload_n 0, 1) := by decide +kernel
theorem dL_law_953 : decode cL_law 953 = .ok (.iload_n 3, 1) := by decide +kernel
theorem dL_law_954 : decode cL_law 954 = .ok (.iconst 2, 1) := by decide +kernel
theorem dL_law_955 : decode cL_law 955 = .ok (.iadd, 1) := by decide +kernel
theorem dL_law_956 : decode cL_law 956 = .ok (.iaload, 1) := by decide +kernel
theorem dL_law_957 : decode cL_law 957 = .ok (.aload_n 0, 1) := by decide +kernel
theorem dL_law_958 : decode cL_law 958 = .ok (.iload_n 3, 1) := by decide +kernel
theorem dL_law_959 : decode cL_law 959 = .ok (.iconst 3, 1) := by decide +kernel
theorem dL_law_960 : decode cL_law 960 = .ok (.iadd, 1) := by decide +kernel
theorem dL_law_961 : decode cL_law 961 = .ok (.iaload, 1) := by decide +kernel
theorem dL_law_962 : decode cL_law 962 = .ok (.invokevirtual 110, 3) := by decide +kernel
theorem dL_law_965 : decode cL_law 965 = .ok (.pop, 1) := by decide +kernel
theorem dL_law_966 : decode cL_law 966 = .ok (.aload_n 2, 1) := by decide +kernel
theorem dL_law_967 : decode cL_law 967 = .ok (.aload_n 0, 1) := by decide +kernel
theorem dL_law_968 : decode cL_law 968 = .ok (.iload_n 3, 1) := by decide +kernel
theorem dL_law_969 : decode cL_law 969 = .ok (.iconst 1, 1) := by decide +kernel
theorem dL_law_970 : decode cL_law 970 = .ok (.iadd, 1) := by decide +kernel
theorem dL_law_971 : decode cL_law 971 = .ok (.iaload, 1) := by decide +kernel
theorem dL_law_972 : decode cL_law 972 = .ok (.aload_n 0, 1) := by decide +kernel
theorem dL_law_973 : decode cL_law 973 = .ok (.iload_n 3, 1) := by decide +kernel
theorem dL_law_974 : decode cL_law 974 = .ok (.iconst 2, 1) := by decide +kernel
theorem dL_law_975 : decode cL_law 975 = .ok (.iadd, 1) := by decide +kernel
theorem dL_law_976 : decode cL_law 976 = .ok (.iaload, 1) := by decide +kernel
theorem dL_law_977 : decode cL_law 977 = .ok (.aload_n 0, 1) := by decide +kernel
theorem dL_law_978 : decode cL_law 978 = .ok (.iload_n 3, 1) := by decide +kernel
theorem dL_law_979 : decode cL_law 979 = .ok (.iconst 3, 1) := by decide +kernel
theorem dL_law_980 : decode cL_law 980 = .ok (.iadd, 1) := by decide +kernel
theorem dL_law_981 : decode cL_law 981 = .ok (.iaload, 1) := by decide +kernel
theorem dL_law_982 : decode cL_law 982 = .ok (.invokevirtual 113, 3) := by decide +kernel
theorem dL_law_985 : decode cL_law 985 = .ok (.pop, 1) := by decide +kernel
theorem dL_law_986 : decode cL_law 986 = .ok (.goto 329, 3) := by decide +kernel
theorem dL_law_989 : decode cL_law 989 = .ok (.aload_n 1, 1) := by decide +kernel
theorem dL_law_990 : decode cL_law 990 = .ok (.aload_n 0, 1) := by decide +kernel
theorem dL_law_991 : decode cL_law 991 = .ok (.iload_n 3, 1) := by decide +kernel
theorem dL_law_992 : decode cL_law 992 = .ok (.iconst 1, 1) := by decide +kernel
theorem dL_law_993 : decode cL_law 993 = .ok (.iadd, 1) := by decide +kernel
theorem dL_law_994 : decode cL_law 994 = .ok (.iaload, 1) := by decide +kernel
theorem dL_law_995 : decode cL_law 995 = .ok (.aload_n 0, 1) := by decide +kernel
theorem dL_law_996 : decode cL_law 996 = .ok (.iload_n 3, 1) := by decide +kernel
theorem dL_law_997 : decode cL_law 997 = .ok (.iconst 2, 1) := by decide +kernel
theorem dL_law_998 : decode cL_law 998 = .ok (.iadd, 1) := by decide +kernel
theorem dL_law_999 : decode cL_law 999 = .ok (.iaload, 1) := by decide +kernel
theorem dL_law_1000 : decode cL_law 1000 = .ok (.invokevirtual 114, 3) := by decide +kernel
theorem dL_law_1003 : decode cL_law 1003 = .ok (.pop, 1) := by decide +kernel
theorem dL_law_1004 : decode cL_law 1004 = .ok (.aload_n 2, 1) := by decide +kernel
theorem dL_law_1005 : decode cL_law 1005 = .ok (.aload_n 0, 1) := by decide +kernel
theorem dL_law_1006 : decode cL_law 1006 = .ok (.iload_n 3, 1) := by decide +kernel
theorem dL_law_1007 : decode cL_law 1007 = .ok (.iconst 1, 1) := by decide +kernel
theorem dL_law_1008 : decode cL_law 1008 = .ok (.iadd, 1) := by decide +kernel
theorem dL_law_1009 : decode cL_law 1009 = .ok (.iaload, 1) := by decide +kernel
theorem dL_law_1010 : decode cL_law 1010 = .ok (.aload_n 0, 1) := by decide +kernel
theorem dL_law_1011 : decode cL_law 1011 = .ok (.iload_n 3, 1) := by decide +kernel
theorem dL_law_1012 : decode cL_law 1012 = .ok (.iconst 2, 1) := by decide +kernel
theorem dL_law_1013 : decode cL_law 1013 = .ok (.iadd, 1) := by decide +kernel
theorem dL_law_1014 : decode cL_law 1014 = .ok (.iaload, 1) := by decide +kernel
theorem dL_law_1015 : decode cL_law 1015 = .ok (.invokevirtual 117, 3) := by decide +kernel
theorem dL_law_1018 : decode cL_law 1018 = .ok (.pop, 1) := by decide +kernel
theorem dL_law_1019 : decode cL_law 1019 = .ok (.goto 296, 3) := by decide +kernel
theorem dL_law_1022 : decode cL_law 1022 = .ok (.aload_n 1, 1) := by decide +kernel
theorem dL_law_1023 : decode cL_law 1023 = .ok (.aload_n 0, 1) := by decide +kernel
theorem dL_law_1024 : decode cL_law 1024 = .ok (.iload_n 3, 1) := by decide +kernel
theorem dL_law_1025 : decode cL_law 1025 = .ok (.iconst 1, 1) := by decide +kernel
theorem dL_law_1026 : decode cL_law 1026 = .ok (.iadd, 1) := by decide +kernel
theorem dL_law_1027 : decode cL_law 1027 = .ok (.iaload, 1) := by decide +kernel
theorem dL_law_1028 : decode cL_law 1028 = .ok (.aload_n 0, 1) := by decide +kernel
theorem dL_law_1029 : decode cL_law 1029 = .ok (.iload_n 3, 1) := by decide +kernel
theorem dL_law_1030 : decode cL_law 1030 = .ok (.iconst 2, 1) := by decide +kernel
theorem dL_law_1031 : decode cL_law 1031 = .ok (.iadd, 1) := by decide +kernel
theorem dL_law_1032 : decode cL_law 1032 = .ok (.iaload, 1) := by decide +kernel
theorem dL_law_1033 : decode cL_law 1033 = .ok (.aload_n 0, 1) := by decide +kernel
theorem dL_law_1034 : decode cL_law 1034 = .ok (.iload_n 3, 1) := by decide +kernel
theorem dL_law_1035 : decode cL_law 1035 = .ok (.iconst 3, 1) := by decide +kernel
theorem dL_law_1036 : decode cL_law 1036 = .ok (.iadd, 1) := by decide +kernel
theorem dL_law_1037 : decode cL_law 1037 = .ok (.iaload, 1) := by decide +kernel
theorem dL_law_1038 : decode cL_law 1038 = .ok (.invokevirtual 118, 3) := by decide +kernel
theorem dL_law_1041 : decode cL_law 1041 = .ok (.pop, 1) := by decide +kernel
theorem dL_law_1042 : decode cL_law 1042 = .ok (.aload_n 2, 1) := by decide +kernel
theorem dL_law_1043 : decode cL_law 1043 = .ok (.aload_n 0, 1) := by decide +kernel
theorem dL_law_1044 : decode cL_law 1044 = .ok (.iload_n 3, 1) := by decide +kernel
theorem dL_law_1045 : decode cL_law 1045 = .ok (.iconst 1, 1) := by decide +kernel
theorem dL_law_1046 : decode cL_law 1046 = .ok (.iadd, 1) := by decide +kernel
theorem dL_law_1047 : decode cL_law 1047 = .ok (.iaload, 1) := by decide +kernel
theorem dL_law_1048 : decode cL_law 1048 = .ok (.aload_n 0, 1) := by decide +kernel
theorem dL_law_1049 : decode cL_law 1049 = .ok (.iload_n 3, 1) := by decide +kernel
theorem dL_law_1050 : decode cL_law 1050 = .ok (.iconst 2, 1) := by decide +kernel
theorem dL_law_1051 : decode cL_law 1051 = .ok (.iadd, 1) := by decide +kernel
theorem dL_law_1052 : decode cL_law 1052 = .ok (.iaload, 1) := by decide +kernel
theorem dL_law_1053 : decode cL_law 1053 = .ok (.aload_n 0, 1) := by decide +kernel
theorem dL_law_1054 : decode cL_law 1054 = .ok (.iload_n 3, 1) := by decide +kernel
theorem dL_law_1055 : decode cL_law 1055 = .ok (.iconst 3, 1) := by decide +kernel
theorem dL_law_1056 : decode cL_law 1056 = .ok (.iadd, 1) := by decide +kernel
theorem dL_law_1057 : decode cL_law 1057 = .ok (.iaload, 1) := by decide +kernel
theorem dL_law_1058 : decode cL_law 1058 = .ok (.invokevirtual 121, 3) := by decide +kernel
theorem dL_law_1061 : decode cL_law 1061 = .ok (.pop, 1) := by decide +kernel
theorem dL_law_1062 : decode cL_law 1062 = .ok (.goto 253, 3) := by decide +kernel
theorem dL_law_1065 : decode cL_law 1065 = .ok (.aload_n 1, 1) := by decide +kernel
theorem dL_law_1066 : decode cL_law 1066 = .ok (.aload_n 0, 1) := by decide +kernel
theorem dL_law_1067 : decode cL_law 1067 = .ok (.iload_n 3, 1) := by decide +kernel
theorem dL_law_1068 : decode cL_law 1068 = .ok (.iconst 1, 1) := by decide +kernel
theorem dL_law_1069 : decode cL_law 1069 = .ok (.iadd, 1) := by decide +kernel
theorem dL_law_1070 : decode cL_law 1070 = .ok (.iaload, 1) := by decide +kernel
theorem dL_law_1071 : decode cL_law 1071 = .ok (.aload_n 0, 1) := by decide +kernel
theorem dL_law_1072 : decode cL_law 1072 = .ok (.iload_n 3, 1) := by decide +kernel
theorem dL_law_1073 : decode cL_law 1073 = .ok (.iconst 2, 1) := by decide +kernel
theorem dL_law_1074 : decode cL_law 1074 = .ok (.iadd, 1) := by decide +kernel
theorem dL_law_1075 : decode cL_law 1075 = .ok (.iaload, 1) := by decide +kernel
theorem dL_law_1076 : decode cL_law 1076 = .ok (.invokevirtual 122, 3) := by decide +kernel
theorem dL_law_1079 : decode cL_law 1079 = .ok (.pop, 1) := by decide +kernel
theorem dL_law_1080 : decode cL_law 1080 = .ok (.aload_n 2, 1) := by decide +kernel
theorem dL_law_1081 : decode cL_law 1081 = .ok (.aload_n 0, 1) := by decide +kernel
theorem dL_law_1082 : decode cL_law 1082 = .ok (.iload_n 3, 1) := by decide +kernel
theorem dL_law_1083 : decode cL_law 1083 = .ok (.iconst 1, 1) := by decide +kernel
theorem dL_law_1084 : decode cL_law 1084 = .ok (.iadd, 1) := by decide +kernel
theorem dL_law_1085 : decode cL_law 1085 = .ok (.iaload, 1) := by decide +kernel
theorem dL_law_1086 : decode cL_law 1086 = .ok (.aload_n 0, 1) := by decide +kernel
theorem dL_law_1087 : decode cL_law 1087 = .ok (.iload_n 3, 1) := by decide +kernel
theorem dL_law_1088 : decode cL_law 1088 = .ok (.iconst 2, 1) := by decide +kernel
theorem dL_law_1089 : decode cL_law 1089 = .ok (.iadd, 1) := by decide +kernel
theorem dL_law_1090 : decode cL_law 1090 = .ok (.iaload, 1) := by decide +kernel
theorem dL_law_1091 : decode cL_law 1091 = .ok (.invokevirtual 125, 3) := by decide +kernel
theorem dL_law_1094 : decode cL_law 1094 = .ok (.pop, 1) := by decide +kernel
theorem dL_law_1095 : decode cL_law 1095 = .ok (.goto 220, 3) := by decide +kernel
theorem dL_law_1098 : decode cL_law 1098 = .ok (.aload_n 1, 1) := by decide +kernel
theorem dL_law_1099 : decode cL_law 1099 = .ok (.aload_n 0, 1) := by decide +kernel
theorem dL_law_1100 : decode cL_law 1100 = .ok (.iload_n 3, 1) := by decide +kernel
theorem dL_law_1101 : decode cL_law 1101 = .ok (.iconst 1, 1) := by decide +kernel
theorem dL_law_1102 : decode cL_law 1102 = .ok (.iadd, 1) := by decide +kernel
theorem dL_law_1103 : decode cL_law 1103 = .ok (.iaload, 1) := by decide +kernel
theorem dL_law_1104 : decode cL_law 1104 = .ok (.aload_n 0, 1) := by decide +kernel
theorem dL_law_1105 : decode cL_law 1105 = .ok (.iload_n 3, 1) := by decide +kernel
theorem dL_law_1106 : decode cL_law 1106 = .ok (.iconst 2, 1) := by decide +kernel
theorem dL_law_1107 : decode cL_law 1107 = .ok (.iadd, 1) := by decide +kernel
theorem dL_law_1108 : decode cL_law 1108 = .ok (.iaload, 1) := by decide +kernel
theorem dL_law_1109 : decode cL_law 1109 = .ok (.invokevirtual 126, 3) := by decide +kernel
theorem dL_law_1112 : decode cL_law 1112 = .ok (.pop, 1) := by decide +kernel
theorem dL_law_1113 : decode cL_law 1113 = .ok (.aload_n 2, 1) := by decide +kernel
theorem dL_law_1114 : decode cL_law 1114 = .ok (.aload_n 0, 1) := by decide +kernel
theorem dL_law_1115 : decode cL_law 1115 = .ok (.iload_n 3, 1) := by decide +kernel
theorem dL_law_1116 : decode cL_law 1116 = .ok (.iconst 1, 1) := by decide +kernel
theorem dL_law_1117 : decode cL_law 1117 = .ok (.iadd, 1) := by decide +kernel
theorem dL_law_1118 : decode cL_law 1118 = .ok (.iaload, 1) := by decide +kernel
theorem dL_law_1119 : decode cL_law 1119 = .ok (.aload_n 0, 1) := by decide +kernel
theorem dL_law_1120 : decode cL_law 1120 = .ok (.iload_n 3, 1) := by decide +kernel
theorem dL_law_1121 : decode cL_law 1121 = .ok (.iconst 2, 1) := by decide +kernel
theorem dL_law_1122 : decode cL_law 1122 = .ok (.iadd, 1) := by decide +kernel
theorem dL_law_1123 : decode cL_law 1123 = .ok (.iaload, 1) := by decide +kernel
theorem dL_law_1124 : decode cL_law 1124 = .ok (.invokevirtual 129, 3) := by decide +kernel
theorem dL_law_1127 : decode cL_law 1127 = .ok (.pop, 1) := by decide +kernel
theorem dL_law_1128 : decode cL_law 1128 = .ok (.goto 187, 3) := by decide +kernel
theorem dL_law_1131 : decode cL_law 1131 = .ok (.aload_n 1, 1) := by decide +kernel
theorem dL_law_1132 : decode cL_law 1132 = .ok (.aload_n 0, 1) := by decide +kernel
theorem dL_law_1133 : decode cL_law 1133 = .ok (.iload_n 3, 1) := by decide +kernel
theorem dL_law_1134 : decode cL_law 1134 = .ok (.iconst 1, 1) := by decide +kernel
theorem dL_law_1135 : decode cL_law 1135 = .ok (.iadd, 1) := by decide +kernel
theorem dL_law_1136 : decode cL_law 1136 = .ok (.iaload, 1) := by decide +kernel
theorem dL_law_1137 : decode cL_law 1137 = .ok (.aload_n 0, 1) := by decide +kernel
theorem dL_law_1138 : decode cL_law 1138 = .ok (.iload_n 3, 1) := by decide +kernel
theorem dL_law_1139 : decode cL_law 1139 = .ok (.iconst 2, 1) := by decide +kernel
theorem dL_law_1140 : decode cL_law 1140 = .ok (.iadd, 1) := by decide +kernel
theorem dL_law_1141 : decode cL_law 1141 = .ok (.iaload, 1) := by decide +kernel
theorem dL_law_1142 : decode cL_law 1142 = .ok (.aload_n 0, 1) := by decide +kernel
theorem dL_law_1143 : decode cL_law 1143 = .ok (.iload_n 3, 1) := by decide +kernel
theorem dL_law_1144 : decode cL_law 1144 = .ok (.iconst 3, 1) := by decide +kernel
theorem dL_law_1145 : decode cL_law 1145 = .ok (.iadd, 1) := by decide +kernel
theorem dL_law_1146 : decode cL_law 1146 = .ok (.iaload, 1) := by decide +kernel
theorem dL_law_1147 : decode cL_law 1147 = .ok (.invokevirtual 130, 3) := by decide +kernel
theorem dL_law_1150 : decode cL_law 1150 = .ok (.pop2, 1) := by decide +kernel
theorem dL_law_1151 : decode cL_law 1151 = .ok (.aload_n 2, 1) := by decide +kernel
theorem dL_law_1152 : decode cL_law 1152 = .ok (.aload_n 0, 1) := by decide +kernel
theorem dL_law_1153 : decode cL_law 1153 = .ok (.iload_n 3, 1) := by decide +kernel
theorem dL_law_1154 : decode cL_law 1154 = .ok (.iconst 1, 1) := by decide +kernel
theorem dL_law_1155 : decode cL_law 1155 = .ok (.iadd, 1) := by decide +kernel
theorem dL_law_1156 : decode cL_law 1156 = .ok (.iaload, 1) := by decide +kernel
theorem dL_law_1157 : decode cL_law 1157 = .ok (.aload_n 0, 1) := by decide +kernel
theorem dL_law_1158 : decode cL_law 1158 = .ok (.iload_n 3, 1) := by decide +kernel
theorem dL_law_1159 : decode cL_law 1159 = .ok (.iconst 2, 1) := by decide +kernel
theorem dL_law_1160 : decode cL_law 1160 = .ok (.iadd, 1) := by decide +kernel
theorem dL_law_1161 : decode cL_law 1161 = .ok (.iaload, 1) := by decide +kernel
theorem dL_law_1162 : decode cL_law 1162 = .ok (.aload_n 0, 1) := by decide +kernel
theorem dL_law_1163 : decode cL_law 1163 = .ok (.iload_n 3, 1) := by decide +kernel
theorem dL_law_1164 : decode cL_law 1164 = .ok (.iconst 3, 1) := by decide +kernel
theorem dL_law_1165 : decode cL_law 1165 = .ok (.iadd, 1) := by decide +kernel
theorem dL_law_1166 : decode cL_law 1166 = .ok (.iaload, 1) := by decide +kernel
theorem dL_law_1167 : decode cL_law 1167 = .ok (.invokevirtual 134, 3) := by decide +kernel
theorem dL_law_1170 : decode cL_law 1170 = .ok (.pop2, 1) := by decide +kernel
theorem dL_law_1171 : decode cL_law 1171 = .ok (.goto 144, 3) := by decide +kernel
theorem dL_law_1174 : decode cL_law 1174 = .ok (.aload_n 1, 1) := by decide +kernel
theorem dL_law_1175 : decode cL_law 1175 = .ok (.aload_n 0, 1) := by decide +kernel
theorem dL_law_1176 : decode cL_law 1176 = .ok (.iload_n 3, 1) := by decide +kernel
theorem dL_law_1177 : decode cL_law 1177 = .ok (.iconst 1, 1) := by decide +kernel
theorem dL_law_1178 : decode cL_law 1178 = .ok (.iadd, 1) := by decide +kernel
theorem dL_law_1179 : decode cL_law 1179 = .ok (.iaload, 1) := by decide +kernel
theorem dL_law_1180 : decode cL_law 1180 = .ok (.aload_n 0, 1) := by decide +kernel
theorem dL_law_1181 : decode cL_law 1181 = .ok (.iload_n 3, 1) := by decide +kernel
theorem dL_law_1182 : decode cL_law 1182 = .ok (.iconst 2, 1) := by decide +kernel
theorem dL_law_1183 : decode cL_law 1183 = .ok (.iadd, 1) := by decide +kernel
theorem dL_law_1184 : decode cL_law 1184 = .ok (.iaload, 1) := by decide +kernel
theorem dL_law_1185 : decode cL_law 1185 = .ok (.aload_n 0, 1) := by decide +kernel
theorem dL_law_1186 : decode cL_law 1186 = .ok (.iload_n 3, 1) := by decide +kernel
theorem dL_law_1187 : decode cL_law 1187 = .ok (.iconst 3, 1) := by decide +kernel
theorem dL_law_1188 : decode cL_law 1188 = .ok (.iadd, 1) := by decide +kernel
theorem dL_law_1189 : decode cL_law 1189 = .ok (.iaload, 1) := by decide +kernel
theorem dL_law_1190 : decode cL_law 1190 = .ok (.invokevirtual 135, 3) := by decide +kernel
theorem dL_law_1193 : decode cL_law 1193 = .ok (.pop, 1) := by decide +kernel
theorem dL_law_1194 : decode cL_law 1194 = .ok (.aload_n 2, 1) := by decide +kernel
theorem dL_law_1195 : decode cL_law 1195 = .ok (.aload_n 0, 1) := by decide +kernel
theorem dL_law_1196 : decode cL_law 1196 = .ok (.iload_n 3, 1) := by decide +kernel
theorem dL_law_1197 : decode cL_law 1197 = .ok (.iconst 1, 1) := by decide +kernel
theorem dL_law_1198 : decode cL_law 1198 = .ok (.iadd, 1) := by decide +kernel
theorem dL_law_1199 : decode cL_law 1199 = .ok (.iaload, 1) := by decide +kernel
theorem dL_law_1200 : decode cL_law 1200 = .ok (.aload_n 0, 1) := by decide +kernel
theorem dL_law_1201 : decode cL_law 1201 = .ok (.iload_n 3, 1) := by decide +kernel
theorem dL_law_1202 : decode cL_law 1202 = .ok (.iconst 2, 1) := by decide +kernel
theorem dL_law_1203 : decode cL_law 1203 = .ok (.iadd, 1) := by decide +kernel
theorem dL_law_1204 : decode cL_law 1204 = .ok (.iaload, 1) := by decide +kernel
theorem dL_law_1205 : decode cL_law 1205 = .ok (.aload_n 0, 1) := by decide +kernel
theorem dL_law_1206 : decode cL_law 1206 = .ok (.iload_n 3, 1) := by decide +kernel
theorem dL_law_1207 : decode cL_law 1207 = .ok (.iconst 3, 1) := by decide +kernel
theorem dL_law_1208 : decode cL_law 1208 = .ok (.iadd, 1) := by decide +kernel
theorem dL_law_1209 : decode cL_law 1209 = .ok (.iaload, 1) := by decide +kernel
theorem dL_law_1210 : decode cL_law 1210 = .ok (.invokevirtual 138, 3) := by decide +kernel
theorem dL_law_1213 : decode cL_law 1213 = .ok (.pop, 1) := by decide +kernel
theorem dL_law_1214 : decode cL_law 1214 = .ok (.goto 101, 3) := by decide +kernel
theorem dL_law_1217 : decode cL_law 1217 = .ok (.aload_n 1, 1) := by decide +kernel
theorem dL_law_1218 : decode cL_law 1218 = .ok (.aload_n 0, 1) := by decide +kernel
theorem dL_law_1219 : decode cL_law 1219 = .ok (.iload_n 3, 1) := by decide +kernel
theorem dL_law_1220 : decode cL_law 1220 = .ok (.iconst 1, 1) := by decide +kernel
theorem dL_law_1221 : decode cL_law 1221 = .ok (.iadd, 1) := by decide +kernel
theorem dL_law_1222 : decode cL_law 1222 = .ok (.iaload, 1) := by decide +kernel
theorem dL_law_1223 : decode cL_law 1223 = .ok (.invokevirtual 139, 3) := by decide +kernel
theorem dL_law_1226 : decode cL_law 1226 = .ok (.pop, 1) := by decide +kernel
theorem dL_law_1227 : decode cL_law 1227 = .ok (.aload_n 2, 1) := by decide +kernel
theorem dL_law_1228 : decode cL_law 1228 = .ok (.aload_n 0, 1) := by decide +kernel
theorem dL_law_1229 : decode cL_law 1229 = .ok (.iload_n 3, 1) := by decide +kernel
theorem dL_law_1230 : decode cL_law 1230 = .ok (.iconst 1, 1) := by decide +kernel
theorem dL_law_1231 : decode cL_law 1231 = .ok (.iadd, 1) := by decide +kernel
theorem dL_law_1232 : decode cL_law 1232 = .ok (.iaload, 1) := by decide +kernel
theorem dL_law_1233 : decode cL_law 1233 = .ok (.invokevirtual 142, 3) := by decide +kernel
theorem dL_law_1236 : decode cL_law 1236 = .ok (.pop, 1) := by decide +kernel
theorem dL_law_1237 : decode cL_law 1237 = .ok (.goto 78, 3) := by decide +kernel
theorem dL_law_1240 : decode cL_law 1240 = .ok (.aload_n 1, 1) := by decide +kernel
theorem dL_law_1241 : decode cL_law 1241 = .ok (.invokevirtual 143, 3) := by decide +kernel
theorem dL_law_1244 : decode cL_law 1244 = .ok (.pop, 1) := by decide +kernel
theorem dL_law_1245 : decode cL_law 1245 = .ok (.aload_n 2, 1) := by decide +kernel
theorem dL_law_1246 : decode cL_law 1246 = .ok (.invokevirtual 146, 3) := by decide +kernel
theorem dL_law_1249 : decode cL_law 1249 = .ok (.pop, 1) := by decide +kernel
theorem dL_law_1250 : decode cL_law 1250 = .ok (.goto 65, 3) := by decide +kernel
theorem dL_law_1253 : decode cL_law 1253 = .ok (.aload_n 1, 1) := by decide +kernel
theorem dL_law_1254 : decode cL_law 1254 = .ok (.aload_n 0, 1) := by decide +kernel
theorem dL_law_1255 : decode cL_law 1255 = .ok (.iload_n 3, 1) := by decide +kernel
theorem dL_law_1256 : decode cL_law 1256 = .ok (.iconst 1, 1) := by decide +kernel
theorem dL_law_1257 : decode cL_law 1257 = .ok (.iadd, 1) := by decide +kernel
theorem dL_law_1258 : decode cL_law 1258 = .ok (.iaload, 1) := by decide +kernel
theorem dL_law_1259 : decode cL_law 1259 = .ok (.ifCond .eq 7, 3) := by decide +kernel
theorem dL_law_1262 : decode cL_law 1262 = .ok (.iconst 1, 1) := by decide +kernel
theorem dL_law_1263 : decode cL_law 1263 = .ok (.goto 4, 3) := by decide +kernel
theorem dL_law_1266 : decode cL_law 1266 = .ok (.iconst 0, 1) := by decide +kernel
theorem dL_law_1267 : decode cL_law 1267 = .ok (.invokevirtual 147, 3) := by decide +kernel
theorem dL_law_1270 : decode cL_law 1270 = .ok (.pop, 1) := by decide +kernel
theorem dL_law_1271 : decode cL_law 1271 = .ok (.aload_n 2, 1) := by decide +kernel
theorem dL_law_1272 : decode cL_law 1272 = .ok (.aload_n 0, 1) := by decide +kernel
theorem dL_law_1273 : decode cL_law 1273 = .ok (.iload_n 3, 1) := by decide +kernel
theorem dL_law_1274 : decode cL_law 1274 = .ok (.iconst 1, 1) := by decide +kernel
theorem dL_law_1275 : decode cL_law 1275 = .ok (.iadd, 1) := by decide +kernel
theorem dL_law_1276 : decode cL_law 1276 = .ok (.iaload, 1) := by decide +kernel
theorem dL_law_1277 : decode cL_law 1277 = .ok (.ifCond .eq 7, 3) := by decide +kernel
theorem dL_law_1280 : decode cL_law 1280 = .ok (.iconst 1, 1) := by decide +kernel
theorem dL_law_1281 : decode cL_law 1281 = .ok (.goto 4, 3) := by decide +kernel
theorem dL_law_1284 : decode cL_law 1284 = .ok (.iconst 0, 1) := by decide +kernel
theorem dL_law_1285 : decode cL_law 1285 = .ok (.invokevirtual 151, 3) := by decide +kernel
theorem dL_law_1288 : decode cL_law 1288 = .ok (.pop, 1) := by decide +kernel
theorem dL_law_1289 : decode cL_law 1289 = .ok (.goto 26, 3) := by decide +kernel
theorem dL_law_1292 : decode cL_law 1292 = .ok (.aload_n 1, 1) := by decide +kernel
theorem dL_law_1293 : decode cL_law 1293 = .ok (.aload_n 0, 1) := by decide +kernel
theorem dL_law_1294 : decode cL_law 1294 = .ok (.iload_n 3, 1) := by decide +kernel
theorem dL_law_1295 : decode cL_law 1295 = .ok (.iconst 1, 1) := by decide +kernel
theorem dL_law_1296 : decode cL_law 1296 = .ok (.iadd, 1) := by decide +kernel
theorem dL_law_1297 : decode cL_law 1297 = .ok (.iaload, 1) := by decide +kernel
theorem dL_law_1298 : decode cL_law 1298 = .ok (.invokevirtual 152, 3) := by decide +kernel
theorem dL_law_1301 : decode cL_law 1301 = .ok (.pop, 1) := by decide +kernel
theorem dL_law_1302 : decode cL_law 1302 = .ok (.aload_n 2, 1) := by decide +kernel
theorem dL_law_1303 : decode cL_law 1303 = .ok (.aload_n 0, 1) := by decide +kernel
theorem dL_law_1304 : decode cL_law 1304 = .ok (.iload_n 3, 1) := by decide +kernel
theorem dL_law_1305 : decode cL_law 1305 = .ok (.iconst 1, 1) := by decide +kernel
theorem dL_law_1306 : decode cL_law 1306 = .ok (.iadd, 1) := by decide +kernel
theorem dL_law_1307 : decode cL_law 1307 = .ok (.iaload, 1) := by decide +kernel
theorem dL_law_1308 : decode cL_law 1308 = .ok (.invokevirtual 155, 3) := by decide +kernel
theorem dL_law_1311 : decode cL_law 1311 = .ok (.pop, 1) := by decide +kernel
theorem dL_law_1312 : decode cL_law 1312 = .ok (.goto 3, 3) := by decide +kernel
theorem dL_law_1315 : decode cL_law 1315 = .ok (.iinc 3 6, 3) := by decide +kernel
theorem dL_law_1318 : decode cL_law 1318 = .ok (.goto (-1300), 3) := by decide +kernel
theorem dL_law_1321 : decode cL_law 1321 = .ok (.iconst 1, 1) := by decide +kernel
theorem dL_law_1322 : decode cL_law 1322 = .ok (.ireturn, 1) := by decide +kernel
