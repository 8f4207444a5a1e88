theorem dX4_findTermsAtPoint_147 : decode cX4_findTermsAtPoint 147 = .ok (.invokevirtual 123, 3) := by decide +kernel
theorem dX4_findTermsAtPoint_150 : decode cX4_findTermsAtPoint 150 = .ok (.lsub, 1) := by decide +kernel
theorem dX4_findTermsAtPoint_151 : decode cX4_findTermsAtPoint 151 = .ok (.lstore_n 3, 1) := by decide +kernel
theorem dX4_findTermsAtPoint_152 : decode cX4_findTermsAtPoint 152 = .ok (.lload_n 3, 1) := by decide +kernel
theorem dX4_findTermsAtPoint_153 : decode cX4_findTermsAtPoint 153 = .ok (.lconst 0, 1) := by decide +kernel
theorem dX4_findTermsAtPoint_154 : decode cX4_findTermsAtPoint 154 = .ok (.lcmp, 1) := by decide +kernel
theorem dX4_findTermsAtPoint_155 : decode cX4_findTermsAtPoint 155 = .ok (.ifCond .eq 14, 3) := by decide +kernel
theorem dX4_findTermsAtPoint_158 : decode cX4_findTermsAtPoint 158 = .ok (.aload_n 0, 1) := by decide +kernel
theorem dX4_findTermsAtPoint_159 : decode cX4_findTermsAtPoint 159 = .ok (.getfield 20, 3) := by decide +kernel
theorem dX4_findTermsAtPoint_162 : decode cX4_findTermsAtPoint 162 = .ok (.iload_n 2, 1) := by decide +kernel
theorem dX4_findTermsAtPoint_163 : decode cX4_findTermsAtPoint 163 = .ok (.aaload, 1) := by decide +kernel
theorem dX4_findTermsAtPoint_164 : decode cX4_findTermsAtPoint 164 = .ok (.iload_n 1, 1) := by decide +kernel
theorem dX4_findTermsAtPoint_165 : decode cX4_findTermsAtPoint 165 = .ok (.lload_n 3, 1) := by decide +kernel
theorem dX4_findTermsAtPoint_166 : decode cX4_findTermsAtPoint 166 = .ok (.invokevirtual 127, 3) := by decide +kernel
theorem dX4_findTermsAtPoint_169 : decode cX4_findTermsAtPoint 169 = .ok (.iinc 2 1, 3) := by decide +kernel
theorem dX4_findTermsAtPoint_172 : decode cX4_findTermsAtPoint 172 = .ok (.goto (-75), 3) := by decide +kernel
theorem dX4_findTermsAtPoint_175 : decode cX4_findTermsAtPoint 175 = .ok (.return_, 1) := by decide +kernel
theorem dX5_init_0 : decode cX5_init 0 = .ok (.aload_n 0, 1) := by decide +kernel
theorem dX5_init_1 : decode cX5_init 1 = .ok (.invokespecial 3, 3) := by decide +kernel
theorem dX5_init_4 : decode cX5_init 4 = .ok (.aload_n 0, 1) := by decide +kernel
theorem dX5_init_5 : decode cX5_init 5 = .ok (.iconst 0, 1) := by decide +kernel
theorem dX5_init_6 : decode cX5_init 6 = .ok (.putfield 9, 3) := by decide +kernel
theorem dX5_init_9 : decode cX5_init 9 = .ok (.aload_n 0, 1) := by decide +kernel
theorem dX5_init_10 : decode cX5_init 10 = .ok (.iconst (-1), 1) := by decide +kernel
theorem dX5_init_11 : decode cX5_init 11 = .ok (.putfield 15, 3) := by decide +kernel
theorem dX5_init_14 : decode cX5_init 14 = .ok (.aload_n 0, 1) := by decide +kernel
theorem dX5_init_15 : decode cX5_init 15 = .ok (.bipush 9, 2) := by decide +kernel
theorem dX5_init_17 : decode cX5_init 17 = .ok (.bipush 6, 2) := by decide +kernel
theorem dX5_init_19 : decode cX5_init 19 = .ok (.multianewarray 18 2, 4) := by decide +kernel
theorem dX5_init_23 : decode cX5_init 23 = .ok (.putfield 20, 3) := by decide +kernel
theorem dX5_init_26 : decode cX5_init 26 = .ok (.aload_n 0, 1) := by decide +kernel
theorem dX5_init_27 : decode cX5_init 27 = .ok (.bipush 9, 2) := by decide +kernel
theorem dX5_init_29 : decode cX5_init 29 = .ok (.bipush 6, 2) := by decide +kernel
theorem dX5_init_31 : decode cX5_init 31 = .ok (.multianewarray 18 2, 4) := by decide +kernel
theorem dX5_init_35 : decode cX5_init 35 = .ok (.putfield 23, 3) := by decide +kernel
theorem dX5_init_38 : decode cX5_init 38 = .ok (.aload_n 0, 1) := by decide +kernel
theorem dX5_init_39 : decode cX5_init 39 = .ok (.bipush 9, 2) := by decide +kernel
theorem dX5_init_41 : decode cX5_init 41 = .ok (.bipush 6, 2) := by decide +kernel
theorem dX5_init_43 : decode cX5_init 43 = .ok (.multianewarray 18 2, 4) := by decide +kernel
theorem dX5_init_47 : decode cX5_init 47 = .ok (.putfield 26, 3) := by decide +kernel
theorem dX5_init_50 : decode cX5_init 50 = .ok (.aload_n 0, 1) := by decide +kernel
theorem dX5_init_51 : decode cX5_init 51 = .ok (.sipush 200, 3) := by decide +kernel
theorem dX5_init_54 : decode cX5_init 54 = .ok (.newarray .int, 2) := by decide +kernel
theorem dX5_init_56 : decode cX5_init 56 = .ok (.putfield 29, 3) := by decide +kernel
theorem dX5_init_59 : decode cX5_init 59 = .ok (.aload_n 0, 1) := by decide +kernel
theorem dX5_init_60 : decode cX5_init 60 = .ok (.iconst 0, 1) := by decide +kernel
theorem dX5_init_61 : decode cX5_init 61 = .ok (.putfield 33, 3) := by decide +kernel
theorem dX5_init_64 : decode cX5_init 64 = .ok (.aload_n 0, 1) := by decide +kernel
theorem dX5_init_65 : decode cX5_init 65 = .ok (.iconst 0, 1) := by decide +kernel
theorem dX5_init_66 : decode cX5_init 66 = .ok (.putfield 36, 3) := by decide +kernel
theorem dX5_init_69 : decode cX5_init 69 = .ok (.aload_n 0, 1) := by decide +kernel
theorem dX5_init_70 : decode cX5_init 70 = .ok (.iconst 0, 1) := by decide +kernel
theorem dX5_init_71 : decode cX5_init 71 = .ok (.putfield 39, 3) := by decide +kernel
theorem dX5_init_74 : decode cX5_init 74 = .ok (.aload_n 0, 1) := by decide +kernel
theorem dX5_init_75 : decode cX5_init 75 = .ok (.aload_n 1, 1) := by decide +kernel
theorem dX5_init_76 : decode cX5_init 76 = .ok (.putfield 42, 3) := by decide +kernel
theorem dX5_init_79 : decode cX5_init 79 = .ok (.aload_n 0, 1) := by decide +kernel
theorem dX5_init_80 : decode cX5_init 80 = .ok (.aload_n 2, 1) := by decide +kernel
theorem dX5_init_81 : decode cX5_init 81 = .ok (.putfield 46, 3) := by decide +kernel
theorem dX5_init_84 : decode cX5_init 84 = .ok (.return_, 1) := by decide +kernel
theorem dX6_init_0 : decode cX6_init 0 = .ok (.aload_n 0, 1) := by decide +kernel
theorem dX6_init_1 : decode cX6_init 1 = .ok (.invokespecial 3, 3) := by decide +kernel
theorem dX6_init_4 : decode cX6_init 4 = .ok (.aload_n 0, 1) := by decide +kernel
theorem dX6_init_5 : decode cX6_init 5 = .ok (.iconst 0, 1) := by decide +kernel
theorem dX6_init_6 : decode cX6_init 6 = .ok (.putfield 9, 3) := by decide +kernel
theorem dX6_init_9 : decode cX6_init 9 = .ok (.aload_n 0, 1) := by decide +kernel
theorem dX6_init_10 : decode cX6_init 10 = .ok (.bipush 6, 2) := by decide +kernel
theorem dX6_init_12 : decode cX6_init 12 = .ok (.newarray .int, 2) := by decide +kernel
theorem dX6_init_14 : decode cX6_init 14 = .ok (.putfield 15, 3) := by decide +kernel
theorem dX6_init_17 : decode cX6_init 17 = .ok (.aload_n 0, 1) := by decide +kernel
theorem dX6_init_18 : decode cX6_init 18 = .ok (.sipush 216, 3) := by decide +kernel
theorem dX6_init_21 : decode cX6_init 21 = .ok (.newarray .int, 2) := by decide +kernel
theorem dX6_init_23 : decode cX6_init 23 = .ok (.putfield 19, 3) := by decide +kernel
theorem dX6_init_26 : decode cX6_init 26 = .ok (.return_, 1) := by decide +kernel
theorem dX6_areWeights_0 : decode cX6_areWeights 0 = .ok (.iload_n 0, 1) := by decide +kernel
theorem dX6_areWeights_1 : decode cX6_areWeights 1 = .ok (.iconst 1, 1) := by decide +kernel
theorem dX6_areWeights_2 : decode cX6_areWeights 2 = .ok (.if_icmp .lt 22, 3) := by decide +kernel
theorem dX6_areWeights_5 : decode cX6_areWeights 5 = .ok (.iload_n 0, 1) := by decide +kernel
theorem dX6_areWeights_6 : decode cX6_areWeights 6 = .ok (.bipush 6, 2) := by decide +kernel
theorem dX6_areWeights_8 : decode cX6_areWeights 8 = .ok (.if_icmp .gt 16, 3) := by decide +kernel
theorem dX6_areWeights_11 : decode cX6_areWeights 11 = .ok (.iload_n 1, 1) := by decide +kernel
theorem dX6_areWeights_12 : decode cX6_areWeights 12 = .ok (.ifCond .lt 12, 3) := by decide +kernel
theorem dX6_areWeights_15 : decode cX6_areWeights 15 = .ok (.iload_n 1, 1) := by decide +kernel
theorem dX6_areWeights_16 : decode cX6_areWeights 16 = .ok (.iconst 1, 1) := by decide +kernel
theorem dX6_areWeights_17 : decode cX6_areWeights 17 = .ok (.iconst 2, 1) := by decide +kernel
theorem dX6_areWeights_18 : decode cX6_areWeights 18 = .ok (.iload_n 0, 1) := by decide +kernel
theorem dX6_areWeights_19 : decode cX6_areWeights 19 = .ok (.imul, 1) := by decide +kernel
theorem dX6_areWeights_20 : decode cX6_areWeights 20 = .ok (.ishl, 1) := by decide +kernel
theorem dX6_areWeights_21 : decode cX6_areWeights 21 = .ok (.if_icmp .lt 5, 3) := by decide +kernel
theorem dX6_areWeights_24 : decode cX6_areWeights 24 = .ok (.iconst 0, 1) := by decide +kernel
theorem dX6_areWeights_25 : decode cX6_areWeights 25 = .ok (.ireturn, 1) := by decide +kernel
theorem dX6_areWeights_26 : decode cX6_areWeights 26 = .ok (.iconst 1, 1) := by decide +kernel
theorem dX6_areWeights_27 : decode cX6_areWeights 27 = .ok (.istore_n 2, 1) := by decide +kernel
theorem dX6_areWeights_28 : decode cX6_areWeights 28 = .ok (.iconst 0, 1) := by decide +kernel
theorem dX6_areWeights_29 : decode cX6_areWeights 29 = .ok (.istore_n 3, 1) := by decide +kernel
theorem dX6_areWeights_30 : decode cX6_areWeights 30 = .ok (.iload_n 3, 1) := by decide +kernel
theorem dX6_areWeights_31 : decode cX6_areWeights 31 = .ok (.iload_n 0, 1) := by decide +kernel
theorem dX6_areWeights_32 : decode cX6_areWeights 32 = .ok (.if_icmp .ge 29, 3) := by decide +kernel
theorem dX6_areWeights_35 : decode cX6_areWeights 35 = .ok (.iload_n 1, 1) := by decide +kernel
theorem dX6_areWeights_36 : decode cX6_areWeights 36 = .ok (.iconst 2, 1) := by decide +kernel
theorem dX6_areWeights_37 : decode cX6_areWeights 37 = .ok (.iload_n 3, 1) := by decide +kernel
theorem dX6_areWeights_38 : decode cX6_areWeights 38 = .ok (.imul, 1) := by decide +kernel
theorem dX6_areWeights_39 : decode cX6_areWeights 39 = .ok (.ishr, 1) := by decide +kernel
theorem dX6_areWeights_40 : decode cX6_areWeights 40 = .ok (.iconst 3, 1) := by decide +kernel
theorem dX6_areWeights_41 : decode cX6_areWeights 41 = .ok (.iand, 1) := by decide +kernel
theorem dX6_areWeights_42 : decode cX6_areWeights 42 = .ok (.istore 4, 2) := by decide +kernel
theorem dX6_areWeights_44 : decode cX6_areWeights 44 = .ok (.iload 4, 2) := by decide +kernel
theorem dX6_areWeights_46 : decode cX6_areWeights 46 = .ok (.iload_n 2, 1) := by decide +kernel
theorem dX6_areWeights_47 : decode cX6_areWeights 47 = .ok (.if_icmp .ge 5, 3) := by decide +kernel
theorem dX6_areWeights_50 : decode cX6_areWeights 50 = .ok (.iconst 0, 1) := by decide +kernel
theorem dX6_areWeights_51 : decode cX6_areWeights 51 = .ok (.ireturn, 1) := by decide +kernel
theorem dX6_areWeights_52 : decode cX6_areWeights 52 = .ok (.iload 4, 2) := by decide +kernel
theorem dX6_areWeights_54 : decode cX6_areWeights 54 = .ok (.istore_n 2, 1) := by decide +kernel
theorem dX6_areWeights_55 : decode cX6_areWeights 55 = .ok (.iinc 3 1, 3) := by decide +kernel
theorem dX6_areWeights_58 : decode cX6_areWeights 58 = .ok (.goto (-28), 3) := by decide +kernel
theorem dX6_areWeights_61 : decode cX6_areWeights 61 = .ok (.iconst 1, 1) := by decide +kernel
theorem dX6_areWeights_62 : decode cX6_areWeights 62 = .ok (.ireturn, 1) := by decide +kernel
theorem dX6_reset_0 : decode cX6_reset 0 = .ok (.aload_n 0, 1) := by decide +kernel
theorem dX6_reset_1 : decode cX6_reset 1 = .ok (.iload_n 1, 1) := by decide +kernel
theorem dX6_reset_2 : decode cX6_reset 2 = .ok (.putfield 9, 3) := by decide +kernel
theorem dX6_reset_5 : decode cX6_reset 5 = .ok (.iconst 0, 1) := by decide +kernel
theorem dX6_reset_6 : decode cX6_reset 6 = .ok (.istore_n 3, 1) := by decide +kernel
theorem dX6_reset_7 : decode cX6_reset 7 = .ok (.iload_n 3, 1) := by decide +kernel
theorem dX6_reset_8 : decode cX6_reset 8 = .ok (.bipush 6, 2) := by decide +kernel
theorem dX6_reset_10 : decode cX6_reset 10 = .ok (.if_icmp .ge 22, 3) := by decide +kernel
theorem dX6_reset_13 : decode cX6_reset 13 = .ok (.aload_n 0, 1) := by decide +kernel
theorem dX6_reset_14 : decode cX6_reset 14 = .ok (.getfield 15, 3) := by decide +kernel
theorem dX6_reset_17 : decode cX6_reset 17 = .ok (.iload_n 3, 1) := by decide +kernel
theorem dX6_reset_18 : decode cX6_reset 18 = .ok (.iload_n 2, 1) := by decide +kernel
theorem dX6_reset_19 : decode cX6_reset 19 = .ok (.iconst 2, 1) := by decide +kernel
theorem dX6_reset_20 : decode cX6_reset 20 = .ok (.iload_n 3, 1) := by decide +kernel
theorem dX6_reset_21 : decode cX6_reset 21 = .ok (.imul, 1) := by decide +kernel
theorem dX6_reset_22 : decode cX6_reset 22 = .ok (.ishr, 1) := by decide +kernel
theorem dX6_reset_23 : decode cX6_reset 23 = .ok (.iconst 3, 1) := by decide +kernel
theorem dX6_reset_24 : decode cX6_reset 24 = .ok (.iand, 1) := by decide +kernel
theorem dX6_reset_25 : decode cX6_reset 25 = .ok (.iastore, 1) := by decide +kernel
theorem dX6_reset_26 : decode cX6_reset 26 = .ok (.iinc 3 1, 3) := by decide +kernel
theorem dX6_reset_29 : decode cX6_reset 29 = .ok (.goto (-22), 3) := by decide +kernel
theorem dX6_reset_32 : decode cX6_reset 32 = .ok (.aload_n 0, 1) := by decide +kernel
theorem dX6_reset_33 : decode cX6_reset 33 = .ok (.getfield 19, 3) := by decide +kernel
theorem dX6_reset_36 : decode cX6_reset 36 = .ok (.iconst 0, 1) := by decide +kernel
theorem dX6_reset_37 : decode cX6_reset 37 = .ok (.invokestatic 22, 3) := by decide +kernel
theorem dX6_reset_40 : decode cX6_reset 40 = .ok (.return_, 1) := by decide +kernel
theorem dX6_takeKind_0 : decode cX6_takeKind 0 = .ok (.iload_n 1, 1) := by decide +kernel
theorem dX6_takeKind_1 : decode cX6_takeKind 1 = .ok (.ifCond .lt 19, 3) := by decide +kernel
theorem dX6_takeKind_4 : decode cX6_takeKind 4 = .ok (.iload_n 1, 1) := by decide +kernel
theorem dX6_takeKind_5 : decode cX6_takeKind 5 = .ok (.getstatic 28, 3) := by decide +kernel
theorem dX6_takeKind_8 : decode cX6_takeKind 8 = .ok (.arraylength, 1) := by decide +kernel
theorem dX6_takeKind_9 : decode cX6_takeKind 9 = .ok (.if_icmp .ge 11, 3) := by decide +kernel
theorem dX6_takeKind_12 : decode cX6_takeKind 12 = .ok (.iload_n 1, 1) := by decide +kernel
theorem dX6_takeKind_13 : decode cX6_takeKind 13 = .ok (.getstatic 31, 3) := by decide +kernel
theorem dX6_takeKind_16 : decode cX6_takeKind 16 = .ok (.arraylength, 1) := by decide +kernel
theorem dX6_takeKind_17 : decode cX6_takeKind 17 = .ok (.if_icmp .lt 4, 3) := by decide +kernel
theorem dX6_takeKind_20 : decode cX6_takeKind 20 = .ok (.return_, 1) := by decide +kernel
theorem dX6_takeKind_21 : decode cX6_takeKind 21 = .ok (.aload_n 0, 1) := by decide +kernel
theorem dX6_takeKind_22 : decode cX6_takeKind 22 = .ok (.getstatic 28, 3) := by decide +kernel
theorem dX6_takeKind_25 : decode cX6_takeKind 25 = .ok (.iload_n 1, 1) := by decide +kernel
theorem dX6_takeKind_26 : decode cX6_takeKind 26 = .ok (.iaload, 1) := by decide +kernel
theorem dX6_takeKind_27 : decode cX6_takeKind 27 = .ok (.getstatic 31, 3) := by decide +kernel
theorem dX6_takeKind_30 : decode cX6_takeKind 30 = .ok (.iload_n 1, 1) := by decide +kernel
theorem dX6_takeKind_31 : decode cX6_takeKind 31 = .ok (.iaload, 1) := by decide +kernel
theorem dX6_takeKind_32 : decode cX6_takeKind 32 = .ok (.invokevirtual 34, 3) := by decide +kernel
theorem dX6_takeKind_35 : decode cX6_takeKind 35 = .ok (.iconst 0, 1) := by decide +kernel
theorem dX6_takeKind_36 : decode cX6_takeKind 36 = .ok (.istore_n 2, 1) := by decide +kernel
theorem dX6_takeKind_37 : decode cX6_takeKind 37 = .ok (.iload_n 2, 1) := by decide +kernel
theorem dX6_takeKind_38 : decode cX6_takeKind 38 = .ok (.iconst 3, 1) := by decide +kernel
theorem dX6_takeKind_39 : decode cX6_takeKind 39 = .ok (.iadd, 1) := by decide +kernel
theorem dX6_takeKind_40 : decode cX6_takeKind 40 = .ok (.getstatic 38, 3) := by decide +kernel
theorem dX6_takeKind_43 : decode cX6_takeKind 43 = .ok (.arraylength, 1) := by decide +kernel
theorem dX6_takeKind_44 : decode cX6_takeKind 44 = .ok (.if_icmp .ge 50, 3) := by decide +kernel
theorem dX6_takeKind_47 : decode cX6_takeKind 47 = .ok (.getstatic 38, 3) := by decide +kernel
theorem dX6_takeKind_50 : decode cX6_takeKind 50 = .ok (.iload_n 2, 1) := by decide +kernel
theorem dX6_takeKind_51 : decode cX6_takeKind 51 = .ok (.iaload, 1) := by decide +kernel
theorem dX6_takeKind_52 : decode cX6_takeKind 52 = .ok (.iload_n 1, 1) := by decide +kernel
theorem dX6_takeKind_53 : decode cX6_takeKind 53 = .ok (.if_icmp .ne 35, 3) := by decide +kernel
theorem dX6_takeKind_56 : decode cX6_takeKind 56 = .ok (.aload_n 0, 1) := by decide +kernel
theorem dX6_takeKind_57 : decode cX6_takeKind 57 = .ok (.getstatic 38, 3) := by decide +kernel
theorem dX6_takeKind_60 : decode cX6_takeKind 60 = .ok (.iload_n 2, 1) := by decide +kernel
theorem dX6_takeKind_61 : decode cX6_takeKind 61 = .ok (.iconst 1, 1) := by decide +kernel
theorem dX6_takeKind_62 : decode cX6_takeKind 62 = .ok (.iadd, 1) := by decide +kernel
theorem dX6_takeKind_63 : decode cX6_takeKind 63 = .ok (.iaload, 1) := by decide +kernel
theorem dX6_takeKind_64 : decode cX6_takeKind 64 = .ok (.iconst 1, 1) := by decide +kernel
theorem dX6_takeKind_65 : decode cX6_takeKind 65 = .ok (.isub, 1) := by decide +kernel
theorem dX6_takeKind_66 : decode cX6_takeKind 66 = .ok (.getstatic 38, 3) := by decide +kernel
theorem dX6_takeKind_69 : decode cX6_takeKind 69 = .ok (.iload_n 2, 1) := by decide +kernel
theorem dX6_takeKind_70 : decode cX6_takeKind 70 = .ok (.iconst 2, 1) := by decide +kernel
theorem dX6_takeKind_71 : decode cX6_takeKind 71 = .ok (.iadd, 1) := by decide +kernel
theorem dX6_takeKind_72 : decode cX6_takeKind 72 = .ok (.iaload, 1) := by decide +kernel
theorem dX6_takeKind_73 : decode cX6_takeKind 73 = .ok (.iconst 1, 1) := by decide +kernel
theorem dX6_takeKind_74 : decode cX6_takeKind 74 = .ok (.isub, 1) := by decide +kernel
theorem dX6_takeKind_75 : decode cX6_takeKind 75 = .ok (.getstatic 38, 3) := by decide +kernel
theorem dX6_takeKind_78 : decode cX6_takeKind 78 = .ok (.iload_n 2, 1) := by decide +kernel
theorem dX6_takeKind_79 : decode cX6_takeKind 79 = .ok (.iconst 3, 1) := by decide +kernel
theorem dX6_takeKind_80 : decode cX6_takeKind 80 = .ok (.iadd, 1) := by decide +kernel
theorem dX6_takeKind_81 : decode cX6_takeKind 81 = .ok (.iaload, 1) := by decide +kernel
theorem dX6_takeKind_82 : decode cX6_takeKind 82 = .ok (.iconst 1, 1) := by decide +kernel
theorem dX6_takeKind_83 : decode cX6_takeKind 83 = .ok (.isub, 1) := by decide +kernel
theorem dX6_takeKind_84 : decode cX6_takeKind 84 = .ok (.iconst 1, 1) := by decide +kernel
theorem dX6_takeKind_85 : decode cX6_takeKind 85 = .ok (.invokevirtual 41, 3) := by decide +kernel
theorem dX6_takeKind_88 : decode cX6_takeKind 88 = .ok (.iinc 2 4, 3) := by decide +kernel
theorem dX6_takeKind_91 : decode cX6_takeKind 91 = .ok (.goto (-54), 3) := by decide +kernel
theorem dX6_takeKind_94 : decode cX6_takeKind 94 = .ok (.return_, 1) := by decide +kernel
theorem dX6_takeAll_0 : decode cX6_takeAll 0 = .ok (.aload_n 0, 1) := by decide +kernel
theorem dX6_takeAll_1 : decode cX6_takeAll 1 = .ok (.aload_n 1, 1) := by decide +kernel
theorem dX6_takeAll_2 : decode cX6_takeAll 2 = .ok (.getfield 9, 3) := by decide +kernel
theorem dX6_takeAll_5 : decode cX6_takeAll 5 = .ok (.putfield 9, 3) := by decide +kernel
theorem dX6_takeAll_8 : decode cX6_takeAll 8 = .ok (.aload_n 1, 1) := by decide +kernel
theorem dX6_takeAll_9 : decode cX6_takeAll 9 = .ok (.getfield 15, 3) := by decide +kernel
theorem dX6_takeAll_12 : decode cX6_takeAll 12 = .ok (.iconst 0, 1) := by decide +kernel
theorem dX6_takeAll_13 : decode cX6_takeAll 13 = .ok (.aload_n 0, 1) := by decide +kernel
theorem dX6_takeAll_14 : decode cX6_takeAll 14 = .ok (.getfield 15, 3) := by decide +kernel
theorem dX6_takeAll_17 : decode cX6_takeAll 17 = .ok (.iconst 0, 1) := by decide +kernel
theorem dX6_takeAll_18 : decode cX6_takeAll 18 = .ok (.aload_n 0, 1) := by decide +kernel
theorem dX6_takeAll_19 : decode cX6_takeAll 19 = .ok (.getfield 15, 3) := by decide +kernel
theorem dX6_takeAll_22 : decode cX6_takeAll 22 = .ok (.arraylength, 1) := by decide +kernel
theorem dX6_takeAll_23 : decode cX6_takeAll 23 = .ok (.invokestatic 45, 3) := by decide +kernel
theorem dX6_takeAll_26 : decode cX6_takeAll 26 = .ok (.aload_n 1, 1) := by decide +kernel
theorem dX6_takeAll_27 : decode cX6_takeAll 27 = .ok (.getfield 19, 3) := by decide +kernel
theorem dX6_takeAll_30 : decode cX6_takeAll 30 = .ok (.iconst 0, 1) := by decide +kernel
theorem dX6_takeAll_31 : decode cX6_takeAll 31 = .ok (.aload_n 0, 1) := by decide +kernel
theorem dX6_takeAll_32 : decode cX6_takeAll 32 = .ok (.getfield 19, 3) := by decide +kernel
theorem dX6_takeAll_35 : decode cX6_takeAll 35 = .ok (.iconst 0, 1) := by decide +kernel
theorem dX6_takeAll_36 : decode cX6_takeAll 36 = .ok (.aload_n 0, 1) := by decide +kernel
theorem dX6_takeAll_37 : decode cX6_takeAll 37 = .ok (.getfield 19, 3) := by decide +kernel
theorem dX6_takeAll_40 : decode cX6_takeAll 40 = .ok (.arraylength, 1) := by decide +kernel
theorem dX6_takeAll_41 : decode cX6_takeAll 41 = .ok (.invokestatic 45, 3) := by decide +kernel
theorem dX6_takeAll_44 : decode cX6_takeAll 44 = .ok (.return_, 1) := by decide +kernel
theorem dX6_isSame_0 : decode cX6_isSame 0 = .ok (.aload_n 0, 1) := by decide +kernel
theorem dX6_isSame_1 : decode cX6_isSame 1 = .ok (.getfield 9, 3) := by decide +kernel
theorem dX6_isSame_4 : decode cX6_isSame 4 = .ok (.aload_n 1, 1) := by decide +kernel
theorem dX6_isSame_5 : decode cX6_isSame 5 = .ok (.getfield 9, 3) := by decide +kernel
theorem dX6_isSame_8 : decode cX6_isSame 8 = .ok (.if_icmp .eq 5, 3) := by decide +kernel
theorem dX6_isSame_11 : decode cX6_isSame 11 = .ok (.iconst 0, 1) := by decide +kernel
theorem dX6_isSame_12 : decode cX6_isSame 12 = .ok (.ireturn, 1) := by decide +kernel
theorem dX6_isSame_13 : decode cX6_isSame 13 = .ok (.iconst 0, 1) := by decide +kernel
theorem dX6_isSame_14 : decode cX6_isSame 14 = .ok (.istore_n 2, 1) := by decide +kernel
theorem dX6_isSame_15 : decode cX6_isSame 15 = .ok (.iload_n 2, 1) := by decide +kernel
theorem dX6_isSame_16 : decode cX6_isSame 16 = .ok (.aload_n 0, 1) := by decide +kernel
theorem dX6_isSame_17 : decode cX6_isSame 17 = .ok (.getfield 15, 3) := by decide +kernel
theorem dX6_isSame_20 : decode cX6_isSame 20 = .ok (.arraylength, 1) := by decide +kernel
theorem dX6_isSame_21 : decode cX6_isSame 21 = .ok (.if_icmp .ge 26, 3) := by decide +kernel
theorem dX6_isSame_24 : decode cX6_isSame 24 = .ok (.aload_n 0, 1) := by decide +kernel
theorem dX6_isSame_25 : decode cX6_isSame 25 = .ok (.getfield 15, 3) := by decide +kernel
theorem dX6_isSame_28 : decode cX6_isSame 28 = .ok (.iload_n 2, 1) := by decide +kernel
theorem dX6_isSame_29 : decode cX6_isSame 29 = .ok (.iaload, 1) := by decide +kernel
theorem dX6_isSame_30 : decode cX6_isSame 30 = .ok (.aload_n 1, 1) := by decide +kernel
theorem dX6_isSame_31 : decode cX6_isSame 31 = .ok (.getfield 15, 3) := by decide +kernel
theorem dX6_isSame_34 : decode cX6_isSame 34 = .ok (.iload_n 2, 1) := by decide +kernel
theorem dX6_isSame_35 : decode cX6_isSame 35 = .ok (.iaload, 1) := by decide +kernel
theorem dX6_isSame_36 : decode cX6_isSame 36 = .ok (.if_icmp .eq 5, 3) := by decide +kernel
theorem dX6_isSame_39 : decode cX6_isSame 39 = .ok (.iconst 0, 1) := by decide +kernel
theorem dX6_isSame_40 : decode cX6_isSame 40 = .ok (.ireturn, 1) := by decide +kernel
theorem dX6_isSame_41 : decode cX6_isSame 41 = .ok (.iinc 2 1, 3) := by decide +kernel
theorem dX6_isSame_44 : decode cX6_isSame 44 = .ok (.goto (-29), 3) := by decide +kernel
theorem dX6_isSame_47 : decode cX6_isSame 47 = .ok (.iconst 0, 1) := by decide +kernel
theorem dX6_isSame_48 : decode cX6_isSame 48 = .ok (.istore_n 2, 1) := by decide +kernel
theorem dX6_isSame_49 : decode cX6_isSame 49 = .ok (.iload_n 2, 1) := by decide +kernel
theorem dX6_isSame_50 : decode cX6_isSame 50 = .ok (.aload_n 0, 1) := by decide +kernel
theorem dX6_isSame_51 : decode cX6_isSame 51 = .ok (.getfield 19, 3) := by decide +kernel
theorem dX6_isSame_54 : decode cX6_isSame 54 = .ok (.arraylength, 1) := by decide +kernel
theorem dX6_isSame_55 : decode cX6_isSame 55 = .ok (.if_icmp .ge 26, 3) := by decide +kernel
theorem dX6_isSame_58 : decode cX6_isSame 58 = .ok (.aload_n 0, 1) := by decide +kernel
theorem dX6_isSame_59 : decode cX6_isSame 59 = .ok (.getfield 19, 3) := by decide +kernel
theorem dX6_isSame_62 : decode cX6_isSame 62 = .ok (.iload_n 2, 1) := by decide +kernel
theorem dX6_isSame_63 : decode cX6_isSame 63 = .ok (.iaload, 1) := by decide +kernel
theorem dX6_isSame_64 : decode cX6_isSame 64 = .ok (.aload_n 1, 1) := by decide +kernel
theorem dX6_isSame_65 : decode cX6_isSame 65 = .ok (.getfield 19, 3) := by decide +kernel
theorem dX6_isSame_68 : decode cX6_isSame 68 = .ok (.iload_n 2, 1) := by decide +kernel
theorem dX6_isSame_69 : decode cX6_isSame 69 = .ok (.iaload, 1) := by decide +kernel
theorem dX6_isSame_70 : decode cX6_isSame 70 = .ok (.if_icmp .eq 5, 3) := by decide +kernel
theorem dX6_isSame_73 : decode cX6_isSame 73 = .ok (.iconst 0, 1) := by decide +kernel
theorem dX6_isSame_74 : decode cX6_isSame 74 = .ok (.ireturn, 1) := by decide +kernel
theorem dX6_isSame_75 : decode cX6_isSame 75 = .ok (.iinc 2 1, 3) := by decide +kernel
theorem dX6_isSame_78 : decode cX6_isSame 78 = .ok (.goto (-29), 3) := by decide +kernel
theorem dX6_isSame_81 : decode cX6_isSame 81 = .ok (.iconst 1, 1) := by decide +kernel
theorem dX6_isSame_82 : decode cX6_isSame 82 = .ok (.ireturn, 1) := by decide +kernel
theorem dX6_isTail_0 : decode cX6_isTail 0 = .ok (.iload_n 2, 1) := by decide +kernel
theorem dX6_isTail_1 : decode cX6_isTail 1 = .ok (.ifCond .lt 25, 3) := by decide +kernel
theorem dX6_isTail_4 : decode cX6_isTail 4 = .ok (.iload_n 1, 1) := by decide +kernel
theorem dX6_isTail_5 : decode cX6_isTail 5 = .ok (.iload_n 2, 1) := by decide +kernel
theorem dX6_isTail_6 : decode cX6_isTail 6 = .ok (.if_icmp .le 20, 3) := by decide +kernel
theorem dX6_isTail_9 : decode cX6_isTail 9 = .ok (.iload_n 3, 1) := by decide +kernel
theorem dX6_isTail_10 : decode cX6_isTail 10 = .ok (.iload_n 1, 1) := by decide +kernel
theorem dX6_isTail_11 : decode cX6_isTail 11 = .ok (.if_icmp .le 15, 3) := by decide +kernel
theorem dX6_isTail_14 : decode cX6_isTail 14 = .ok (.iload_n 3, 1) := by decide +kernel
theorem dX6_isTail_15 : decode cX6_isTail 15 = .ok (.aload_n 0, 1) := by decide +kernel
theorem dX6_isTail_16 : decode cX6_isTail 16 = .ok (.getfield 9, 3) := by decide +kernel
theorem dX6_isTail_19 : decode cX6_isTail 19 = .ok (.if_icmp .ge 7, 3) := by decide +kernel
theorem dX6_isTail_22 : decode cX6_isTail 22 = .ok (.iconst 1, 1) := by decide +kernel
theorem dX6_isTail_23 : decode cX6_isTail 23 = .ok (.goto 4, 3) := by decide +kernel
theorem dX6_isTail_26 : decode cX6_isTail 26 = .ok (.iconst 0, 1) := by decide +kernel
theorem dX6_isTail_27 : decode cX6_isTail 27 = .ok (.ireturn, 1) := by decide +kernel
theorem dX6_mayBe_0 : decode cX6_mayBe 0 = .ok (.aload_n 0, 1) := by decide +kernel
theorem dX6_mayBe_1 : decode cX6_mayBe 1 = .ok (.iload_n 1, 1) := by decide +kernel
theorem dX6_mayBe_2 : decode cX6_mayBe 2 = .ok (.iload_n 2, 1) := by decide +kernel
theorem dX6_mayBe_3 : decode cX6_mayBe 3 = .ok (.iload_n 3, 1) := by decide +kernel
theorem dX6_mayBe_4 : decode cX6_mayBe 4 = .ok (.invokevirtual 51, 3) := by decide +kernel
theorem dX6_mayBe_7 : decode cX6_mayBe 7 = .ok (.ifCond .eq 14, 3) := by decide +kernel
theorem dX6_mayBe_10 : decode cX6_mayBe 10 = .ok (.iload 4, 2) := by decide +kernel
theorem dX6_mayBe_12 : decode cX6_mayBe 12 = .ok (.ifCond .lt 9, 3) := by decide +kernel
theorem dX6_mayBe_15 : decode cX6_mayBe 15 = .ok (.iload 4, 2) := by decide +kernel
theorem dX6_mayBe_17 : decode cX6_mayBe 17 = .ok (.iconst 3, 1) := by decide +kernel
theorem dX6_mayBe_18 : decode cX6_mayBe 18 = .ok (.if_icmp .le 5, 3) := by decide +kernel
theorem dX6_mayBe_21 : decode cX6_mayBe 21 = .ok (.iconst 0, 1) := by decide +kernel
theorem dX6_mayBe_22 : decode cX6_mayBe 22 = .ok (.ireturn, 1) := by decide +kernel
theorem dX6_mayBe_23 : decode cX6_mayBe 23 = .ok (.iload 4, 2) := by decide +kernel
theorem dX6_mayBe_25 : decode cX6_mayBe 25 = .ok (.ifCond .eq 25, 3) := by decide +kernel
theorem dX6_mayBe_28 : decode cX6_mayBe 28 = .ok (.aload_n 0, 1) := by decide +kernel
theorem dX6_mayBe_29 : decode cX6_mayBe 29 = .ok (.getfield 15, 3) := by decide +kernel
theorem dX6_mayBe_32 : decode cX6_mayBe 32 = .ok (.iload_n 3, 1) := by decide +kernel
theorem dX6_mayBe_33 : decode cX6_mayBe 33 = .ok (.iaload, 1) := by decide +kernel
theorem dX6_mayBe_34 : decode cX6_mayBe 34 = .ok (.aload_n 0, 1) := by decide +kernel
theorem dX6_mayBe_35 : decode cX6_mayBe 35 = .ok (.getfield 15, 3) := by decide +kernel
theorem dX6_mayBe_38 : decode cX6_mayBe 38 = .ok (.iload_n 2, 1) := by decide +kernel
theorem dX6_mayBe_39 : decode cX6_mayBe 39 = .ok (.iaload, 1) := by decide +kernel
theorem dX6_mayBe_40 : decode cX6_mayBe 40 = .ok (.aload_n 0, 1) := by decide +kernel
theorem dX6_mayBe_41 : decode cX6_mayBe 41 = .ok (.getfield 15, 3) := by decide +kernel
theorem dX6_mayBe_44 : decode cX6_mayBe 44 = .ok (.iload_n 1, 1) := by decide +kernel
theorem dX6_mayBe_45 : decode cX6_mayBe 45 = .ok (.iaload, 1) := by decide +kernel
theorem dX6_mayBe_46 : decode cX6_mayBe 46 = .ok (.iadd, 1) := by decide +kernel
theorem dX6_mayBe_47 : decode cX6_mayBe 47 = .ok (.if_icmp .lt 7, 3) := by decide +kernel
theorem dX6_mayBe_50 : decode cX6_mayBe 50 = .ok (.iconst 1, 1) := by decide +kernel
theorem dX6_mayBe_51 : decode cX6_mayBe 51 = .ok (.goto 4, 3) := by decide +kernel
theorem dX6_mayBe_54 : decode cX6_mayBe 54 = .ok (.iconst 0, 1) := by decide +kernel
theorem dX6_mayBe_55 : decode cX6_mayBe 55 = .ok (.ireturn, 1) := by decide +kernel
theorem dX6_read_0 : decode cX6_read 0 = .ok (.aload_n 0, 1) := by decide +kernel
theorem dX6_read_1 : decode cX6_read 1 = .ok (.iload_n 1, 1) := by decide +kernel
theorem dX6_read_2 : decode cX6_read 2 = .ok (.iload_n 2, 1) := by decide +kernel
theorem dX6_read_3 : decode cX6_read 3 = .ok (.iload_n 3, 1) := by decide +kernel
theorem dX6_read_4 : decode cX6_read 4 = .ok (.invokevirtual 51, 3) := by decide +kernel
theorem dX6_read_7 : decode cX6_read 7 = .ok (.ifCond .eq 22, 3) := by decide +kernel
theorem dX6_read_10 : decode cX6_read 10 = .ok (.aload_n 0, 1) := by decide +kernel
theorem dX6_read_11 : decode cX6_read 11 = .ok (.getfield 19, 3) := by decide +kernel
theorem dX6_read_14 : decode cX6_read 14 = .ok (.iload_n 1, 1) := by decide +kernel
theorem dX6_read_15 : decode cX6_read 15 = .ok (.bipush 6, 2) := by decide +kernel
theorem dX6_read_17 : decode cX6_read 17 = .ok (.imul, 1) := by decide +kernel
theorem dX6_read_18 : decode cX6_read 18 = .ok (.iload_n 2, 1) := by decide +kernel
theorem dX6_read_19 : decode cX6_read 19 = .ok (.iadd, 1) := by decide +kernel
theorem dX6_read_20 : decode cX6_read 20 = .ok (.bipush 6, 2) := by decide +kernel
theorem dX6_read_22 : decode cX6_read 22 = .ok (.imul, 1) := by decide +kernel
theorem dX6_read_23 : decode cX6_read 23 = .ok (.iload_n 3, 1) := by decide +kernel
theorem dX6_read_24 : decode cX6_read 24 = .ok (.iadd, 1) := by decide +kernel
theorem dX6_read_25 : decode cX6_read 25 = .ok (.iaload, 1) := by decide +kernel
theorem dX6_read_26 : decode cX6_read 26 = .ok (.goto 4, 3) := by decide +kernel
theorem dX6_read_29 : decode cX6_read 29 = .ok (.iconst 0, 1) := by decide +kernel
theorem dX6_read_30 : decode cX6_read 30 = .ok (.ireturn, 1) := by decide +kernel
theorem dX6_write_0 : decode cX6_write 0 = .ok (.aload_n 0, 1) := by decide +kernel
theorem dX6_write_1 : decode cX6_write 1 = .ok (.iload_n 1, 1) := by decide +kernel
theorem dX6_write_2 : decode cX6_write 2 = .ok (.iload_n 2, 1) := by decide +kernel
theorem dX6_write_3 : decode cX6_write 3 = .ok (.iload_n 3, 1) := by decide +kernel
theorem dX6_write_4 : decode cX6_write 4 = .ok (.invokevirtual 51, 3) := by decide +kernel
theorem dX6_write_7 : decode cX6_write 7 = .ok (.ifCond .eq 21, 3) := by decide +kernel
theorem dX6_write_10 : decode cX6_write 10 = .ok (.aload_n 0, 1) := by decide +kernel
theorem dX6_write_11 : decode cX6_write 11 = .ok (.getfield 19, 3) := by decide +kernel
theorem dX6_write_14 : decode cX6_write 14 = .ok (.iload_n 1, 1) := by decide +kernel
theorem dX6_write_15 : decode cX6_write 15 = .ok (.bipush 6, 2) := by decide +kernel
theorem dX6_write_17 : decode cX6_write 17 = .ok (.imul, 1) := by decide +kernel
theorem dX6_write_18 : decode cX6_write 18 = .ok (.iload_n 2, 1) := by decide +kernel
theorem dX6_write_19 : decode cX6_write 19 = .ok (.iadd, 1) := by decide +kernel
theorem dX6_write_20 : decode cX6_write 20 = .ok (.bipush 6, 2) := by decide +kernel
theorem dX6_write_22 : decode cX6_write 22 = .ok (.imul, 1) := by decide +kernel
theorem dX6_write_23 : decode cX6_write 23 = .ok (.iload_n 3, 1) := by decide +kernel
theorem dX6_write_24 : decode cX6_write 24 = .ok (.iadd, 1) := by decide +kernel
theorem dX6_write_25 : decode cX6_write 25 = .ok (.iload 4, 2) := by decide +kernel
theorem dX6_write_27 : decode cX6_write 27 = .ok (.iastore, 1) := by decide +kernel
theorem dX6_write_28 : decode cX6_write 28 = .ok (.return_, 1) := by decide +kernel
theorem dX6_top_0 : decode cX6_top 0 = .ok (.aload_n 0, 1) := by decide +kernel
theorem dX6_top_1 : decode cX6_top 1 = .ok (.getfield 9, 3) := by decide +kernel
theorem dX6_top_4 : decode cX6_top 4 = .ok (.ifCond .le 17, 3) := by decide +kernel
theorem dX6_top_7 : decode cX6_top 7 = .ok (.aload_n 0, 1) := by decide +kernel
theorem dX6_top_8 : decode cX6_top 8 = .ok (.getfield 15, 3) := by decide +kernel
theorem dX6_top_11 : decode cX6_top 11 = .ok (.aload_n 0, 1) := by decide +kernel
theorem dX6_top_12 : decode cX6_top 12 = .ok (.getfield 9, 3) := by decide +kernel
theorem dX6_top_15 : decode cX6_top 15 = .ok (.iconst 1, 1) := by decide +kernel
theorem dX6_top_16 : decode cX6_top 16 = .ok (.isub, 1) := by decide +kernel
theorem dX6_top_17 : decode cX6_top 17 = .ok (.iaload, 1) := by decide +kernel
theorem dX6_top_18 : decode cX6_top 18 = .ok (.goto 4, 3) := by decide +kernel
theorem dX6_top_21 : decode cX6_top 21 = .ok (.iconst 0, 1) := by decide +kernel
theorem dX6_top_22 : decode cX6_top 22 = .ok (.ireturn, 1) := by decide +kernel
theorem dX6_tailsAboveZero_0 : decode cX6_tailsAboveZero 0 = .ok (.iconst 0, 1) := by decide +kernel
theorem dX6_tailsAboveZero_1 : decode cX6_tailsAboveZero 1 = .ok (.istore_n 1, 1) := by decide +kernel
theorem dX6_tailsAboveZero_2 : decode cX6_tailsAboveZero 2 = .ok (.iconst 0, 1) := by decide +kernel
theorem dX6_tailsAboveZero_3 : decode cX6_tailsAboveZero 3 = .ok (.istore_n 2, 1) := by decide +kernel
theorem dX6_tailsAboveZero_4 : decode cX6_tailsAboveZero 4 = .ok (.iload_n 2, 1) := by decide +kernel
theorem dX6_tailsAboveZero_5 : decode cX6_tailsAboveZero 5 = .ok (.aload_n 0, 1) := by decide +kernel
theorem dX6_tailsAboveZero_6 : decode cX6_tailsAboveZero 6 = .ok (.getfield 19, 3) := by decide +kernel
theorem dX6_tailsAboveZero_9 : decode cX6_tailsAboveZero 9 = .ok (.arraylength, 1) := by decide +kernel
theorem dX6_tailsAboveZero_10 : decode cX6_tailsAboveZero 10 = .ok (.if_icmp .ge 26, 3) := by decide +kernel
theorem dX6_tailsAboveZero_13 : decode cX6_tailsAboveZero 13 = .ok (.iload_n 1, 1) := by decide +kernel
theorem dX6_tailsAboveZero_14 : decode cX6_tailsAboveZero 14 = .ok (.aload_n 0, 1) := by decide +kernel
theorem dX6_tailsAboveZero_15 : decode cX6_tailsAboveZero 15 = .ok (.getfield 19, 3) := by decide +kernel
theorem dX6_tailsAboveZero_18 : decode cX6_tailsAboveZero 18 = .ok (.iload_n 2, 1) := by decide +kernel
theorem dX6_tailsAboveZero_19 : decode cX6_tailsAboveZero 19 = .ok (.iaload, 1) := by decide +kernel
theorem dX6_tailsAboveZero_20 : decode cX6_tailsAboveZero 20 = .ok (.ifCond .le 7, 3) := by decide +kernel
theorem dX6_tailsAboveZero_23 : decode cX6_tailsAboveZero 23 = .ok (.iconst 1, 1) := by decide +kernel
theorem dX6_tailsAboveZero_24 : decode cX6_tailsAboveZero 24 = .ok (.goto 4, 3) := by decide +kernel
theorem dX6_tailsAboveZero_27 : decode cX6_tailsAboveZero 27 = .ok (.iconst 0, 1) := by decide +kernel
theorem dX6_tailsAboveZero_28 : decode cX6_tailsAboveZero 28 = .ok (.iadd, 1) := by decide +kernel
theorem dX6_tailsAboveZero_29 : decode cX6_tailsAboveZero 29 = .ok (.istore_n 1, 1) := by decide +kernel
theorem dX6_tailsAboveZero_30 : decode cX6_tailsAboveZero 30 = .ok (.iinc 2 1, 3) := by decide +kernel
theorem dX6_tailsAboveZero_33 : decode cX6_tailsAboveZero 33 = .ok (.goto (-29), 3) := by decide +kernel
theorem dX6_tailsAboveZero_36 : decode cX6_tailsAboveZero 36 = .ok (.iload_n 1, 1) := by decide +kernel
theorem dX6_tailsAboveZero_37 : decode cX6_tailsAboveZero 37 = .ok (.ireturn, 1) := by decide +kernel
theorem dX6_isCentral_0 : decode cX6_isCentral 0 = .ok (.iconst 0, 1) := by decide +kernel
theorem dX6_isCentral_1 : decode cX6_isCentral 1 = .ok (.istore_n 2, 1) := by decide +kernel
theorem dX6_isCentral_2 : decode cX6_isCentral 2 = .ok (.iload_n 2, 1) := by decide +kernel
theorem dX6_isCentral_3 : decode cX6_isCentral 3 = .ok (.aload_n 0, 1) := by decide +kernel
theorem dX6_isCentral_4 : decode cX6_isCentral 4 = .ok (.getfield 9, 3) := by decide +kernel
theorem dX6_isCentral_7 : decode cX6_isCentral 7 = .ok (.if_icmp .ge 45, 3) := by decide +kernel
theorem dX6_isCentral_10 : decode cX6_isCentral 10 = .ok (.iconst 0, 1) := by decide +kernel
theorem dX6_isCentral_11 : decode cX6_isCentral 11 = .ok (.istore_n 3, 1) := by decide +kernel
theorem dX6_isCentral_12 : decode cX6_isCentral 12 = .ok (.iload_n 3, 1) := by decide +kernel
theorem dX6_isCentral_13 : decode cX6_isCentral 13 = .ok (.aload_n 0, 1) := by decide +kernel
theorem dX6_isCentral_14 : decode cX6_isCentral 14 = .ok (.getfield 9, 3) := by decide +kernel
theorem dX6_isCentral_17 : decode cX6_isCentral 17 = .ok (.if_icmp .ge 29, 3) := by decide +kernel
theorem dX6_isCentral_20 : decode cX6_isCentral 20 = .ok (.aload_n 0, 1) := by decide +kernel
theorem dX6_isCentral_21 : decode cX6_isCentral 21 = .ok (.iload_n 2, 1) := by decide +kernel
theorem dX6_isCentral_22 : decode cX6_isCentral 22 = .ok (.iload_n 1, 1) := by decide +kernel
theorem dX6_isCentral_23 : decode cX6_isCentral 23 = .ok (.invokestatic 59, 3) := by decide +kernel
theorem dX6_isCentral_26 : decode cX6_isCentral 26 = .ok (.iload_n 2, 1) := by decide +kernel
theorem dX6_isCentral_27 : decode cX6_isCentral 27 = .ok (.iload_n 1, 1) := by decide +kernel
theorem dX6_isCentral_28 : decode cX6_isCentral 28 = .ok (.invokestatic 65, 3) := by decide +kernel
theorem dX6_isCentral_31 : decode cX6_isCentral 31 = .ok (.iload_n 3, 1) := by decide +kernel
theorem dX6_isCentral_32 : decode cX6_isCentral 32 = .ok (.invokevirtual 55, 3) := by decide +kernel
theorem dX6_isCentral_35 : decode cX6_isCentral 35 = .ok (.ifCond .eq 5, 3) := by decide +kernel
theorem dX6_isCentral_38 : decode cX6_isCentral 38 = .ok (.iconst 0, 1) := by decide +kernel
theorem dX6_isCentral_39 : decode cX6_isCentral 39 = .ok (.ireturn, 1) := by decide +kernel
theorem dX6_isCentral_40 : decode cX6_isCentral 40 = .ok (.iinc 3 1, 3) := by decide +kernel
theorem dX6_isCentral_43 : decode cX6_isCentral 43 = .ok (.goto (-31), 3) := by decide +kernel
theorem dX6_isCentral_46 : decode cX6_isCentral 46 = .ok (.iinc 2 1, 3) := by decide +kernel
theorem dX6_isCentral_49 : decode cX6_isCentral 49 = .ok (.goto (-47), 3) := by decide +kernel
theorem dX6_isCentral_52 : decode cX6_isCentral 52 = .ok (.iconst 1, 1) := by decide +kernel
theorem dX6_isCentral_53 : decode cX6_isCentral 53 = .ok (.ireturn, 1) := by decide +kernel
theorem dX7_init_0 : decode cX7_init 0 = .ok (.aload_n 0, 1) := by decide +kernel
theorem dX7_init_1 : decode cX7_init 1 = .ok (.invokespecial 3, 3) := by decide +kernel
theorem dX7_init_4 : decode cX7_init 4 = .ok (.aload_n 0, 1) := by decide +kernel
theorem dX7_init_5 : decode cX7_init 5 = .ok (.new 9, 3) := by decide +kernel
theorem dX7_init_8 : decode cX7_init 8 = .ok (.dup, 1) := by decide +kernel
theorem dX7_init_9 : decode cX7_init 9 = .ok (.invokespecial 11, 3) := by decide +kernel
theorem dX7_init_12 : decode cX7_init 12 = .ok (.putfield 12, 3) := by decide +kernel
theorem dX7_init_15 : decode cX7_init 15 = .ok (.aload_n 0, 1) := by decide +kernel
theorem dX7_init_16 : decode cX7_init 16 = .ok (.new 9, 3) := by decide +kernel
theorem dX7_init_19 : decode cX7_init 19 = .ok (.dup, 1) := by decide +kernel
theorem dX7_init_20 : decode cX7_init 20 = .ok (.invokespecial 11, 3) := by decide +kernel
theorem dX7_init_23 : decode cX7_init 23 = .ok (.putfield 18, 3) := by decide +kernel
theorem dX7_init_26 : decode cX7_init 26 = .ok (.aload_n 0, 1) := by decide +kernel
theorem dX7_init_27 : decode cX7_init 27 = .ok (.bipush 6, 2) := by decide +kernel
theorem dX7_init_29 : decode cX7_init 29 = .ok (.anewarray 21, 3) := by decide +kernel
theorem dX7_init_32 : decode cX7_init 32 = .ok (.putfield 23, 3) := by decide +kernel
theorem dX7_init_35 : decode cX7_init 35 = .ok (.aload_n 0, 1) := by decide +kernel
theorem dX7_init_36 : decode cX7_init 36 = .ok (.bipush 64, 2) := by decide +kernel
theorem dX7_init_38 : decode cX7_init 38 = .ok (.newarray .long, 2) := by decide +kernel
theorem dX7_init_40 : decode cX7_init 40 = .ok (.putfield 27, 3) := by decide +kernel
theorem dX7_init_43 : decode cX7_init 43 = .ok (.aload_n 0, 1) := by decide +kernel
theorem dX7_init_44 : decode cX7_init 44 = .ok (.bipush 6, 2) := by decide +kernel
theorem dX7_init_46 : decode cX7_init 46 = .ok (.newarray .long, 2) := by decide +kernel
theorem dX7_init_48 : decode cX7_init 48 = .ok (.putfield 31, 3) := by decide +kernel
theorem dX7_init_51 : decode cX7_init 51 = .ok (.aload_n 0, 1) := by decide +kernel
theorem dX7_init_52 : decode cX7_init 52 = .ok (.bipush 6, 2) := by decide +kernel
theorem dX7_init_54 : decode cX7_init 54 = .ok (.newarray .long, 2) := by decide +kernel
theorem dX7_init_56 : decode cX7_init 56 = .ok (.putfield 34, 3) := by decide +kernel
theorem dX7_init_59 : decode cX7_init 59 = .ok (.aload_n 0, 1) := by decide +kernel
theorem dX7_init_60 : decode cX7_init 60 = .ok (.bipush 6, 2) := by decide +kernel
theorem dX7_init_62 : decode cX7_init 62 = .ok (.newarray .long, 2) := by decide +kernel
theorem dX7_init_64 : decode cX7_init 64 = .ok (.putfield 37, 3) := by decide +kernel
theorem dX7_init_67 : decode cX7_init 67 = .ok (.aload_n 0, 1) := by decide +kernel
theorem dX7_init_68 : decode cX7_init 68 = .ok (.iconst 0, 1) := by decide +kernel
theorem dX7_init_69 : decode cX7_init 69 = .ok (.putfield 40, 3) := by decide +kernel
theorem dX7_init_72 : decode cX7_init 72 = .ok (.aload_n 0, 1) := by decide +kernel
theorem dX7_init_73 : decode cX7_init 73 = .ok (.iconst 0, 1) := by decide +kernel
theorem dX7_init_74 : decode cX7_init 74 = .ok (.putfield 44, 3) := by decide +kernel
theorem dX7_init_77 : decode cX7_init 77 = .ok (.aload_n 0, 1) := by decide +kernel
theorem dX7_init_78 : decode cX7_init 78 = .ok (.iconst 0, 1) := by decide +kernel
theorem dX7_init_79 : decode cX7_init 79 = .ok (.putfield 47, 3) := by decide +kernel
theorem dX7_init_82 : decode cX7_init 82 = .ok (.aload_n 0, 1) := by decide +kernel
theorem dX7_init_83 : decode cX7_init 83 = .ok (.aload_n 1, 1) := by decide +kernel
theorem dX7_init_84 : decode cX7_init 84 = .ok (.putfield 50, 3) := by decide +kernel
theorem dX7_init_87 : decode cX7_init 87 = .ok (.iconst 0, 1) := by decide +kernel
theorem dX7_init_88 : decode cX7_init 88 = .ok (.istore_n 2, 1) := by decide +kernel
theorem dX7_init_89 : decode cX7_init 89 = .ok (.iload_n 2, 1) := by decide +kernel
theorem dX7_init_90 : decode cX7_init 90 = .ok (.bipush 6, 2) := by decide +kernel
theorem dX7_init_92 : decode cX7_init 92 = .ok (.if_icmp .ge 22, 3) := by decide +kernel
theorem dX7_init_95 : decode cX7_init 95 = .ok (.aload_n 0, 1) := by decide +kernel
theorem dX7_init_96 : decode cX7_init 96 = .ok (.getfield 23, 3) := by decide +kernel
theorem dX7_init_99 : decode cX7_init 99 = .ok (.iload_n 2, 1) := by decide +kernel
theorem dX7_init_100 : decode cX7_init 100 = .ok (.new 21, 3) := by decide +kernel
theorem dX7_init_103 : decode cX7_init 103 = .ok (.dup, 1) := by decide +kernel
theorem dX7_init_104 : decode cX7_init 104 = .ok (.invokespecial 54, 3) := by decide +kernel
theorem dX7_init_107 : decode cX7_init 107 = .ok (.aastore, 1) := by decide +kernel
theorem dX7_init_108 : decode cX7_init 108 = .ok (.iinc 2 1, 3) := by decide +kernel
theorem dX7_init_111 : decode cX7_init 111 = .ok (.goto (-22), 3) := by decide +kernel
theorem dX7_init_114 : decode cX7_init 114 = .ok (.return_, 1) := by decide +kernel
theorem dX8_init_0 : decode cX8_init 0 = .ok (.aload_n 0, 1) := by decide +kernel
theorem dX8_init_1 : decode cX8_init 1 = .ok (.invokespecial 3, 3) := by decide +kernel
theorem dX8_init_4 : decode cX8_init 4 = .ok (.aload_n 0, 1) := by decide +kernel
theorem dX8_init_5 : decode cX8_init 5 = .ok (.new 9, 3) := by decide +kernel
theorem dX8_init_8 : decode cX8_init 8 = .ok (.dup, 1) := by decide +kernel
theorem dX8_init_9 : decode cX8_init 9 = .ok (.invokespecial 11, 3) := by decide +kernel
theorem dX8_init_12 : decode cX8_init 12 = .ok (.putfield 12, 3) := by decide +kernel
theorem dX8_init_15 : decode cX8_init 15 = .ok (.aload_n 0, 1) := by decide +kernel
theorem dX8_init_16 : decode cX8_init 16 = .ok (.bipush 10, 2) := by decide +kernel
theorem dX8_init_18 : decode cX8_init 18 = .ok (.bipush 6, 2) := by decide +kernel
theorem dX8_init_20 : decode cX8_init 20 = .ok (.multianewarray 18 2, 4) := by decide +kernel
theorem dX8_init_24 : decode cX8_init 24 = .ok (.putfield 20, 3) := by decide +kernel
theorem dX8_init_27 : decode cX8_init 27 = .ok (.aload_n 0, 1) := by decide +kernel
theorem dX8_init_28 : decode cX8_init 28 = .ok (.bipush 8, 2) := by decide +kernel
theorem dX8_init_30 : decode cX8_init 30 = .ok (.newarray .int, 2) := by decide +kernel
theorem dX8_init_32 : decode cX8_init 32 = .ok (.putfield 23, 3) := by decide +kernel
theorem dX8_init_35 : decode cX8_init 35 = .ok (.return_, 1) := by decide +kernel
theorem dX8_clearRegisters_0 : decode cX8_clearRegisters 0 = .ok (.iconst 0, 1) := by decide +kernel
theorem dX8_clearRegisters_1 : decode cX8_clearRegisters 1 = .ok (.istore_n 1, 1) := by decide +kernel
theorem dX8_clearRegisters_2 : decode cX8_clearRegisters 2 = .ok (.iload_n 1, 1) := by decide +kernel
theorem dX8_clearRegisters_3 : decode cX8_clearRegisters 3 = .ok (.bipush 10, 2) := by decide +kernel
theorem dX8_clearRegisters_5 : decode cX8_clearRegisters 5 = .ok (.if_icmp .ge 19, 3) := by decide +kernel
theorem dX8_clearRegisters_8 : decode cX8_clearRegisters 8 = .ok (.aload_n 0, 1) := by decide +kernel
theorem dX8_clearRegisters_9 : decode cX8_clearRegisters 9 = .ok (.getfield 20, 3) := by decide +kernel
theorem dX8_clearRegisters_12 : decode cX8_clearRegisters 12 = .ok (.iload_n 1, 1) := by decide +kernel
theorem dX8_clearRegisters_13 : decode cX8_clearRegisters 13 = .ok (.aaload, 1) := by decide +kernel
theorem dX8_clearRegisters_14 : decode cX8_clearRegisters 14 = .ok (.lconst 0, 1) := by decide +kernel
theorem dX8_clearRegisters_15 : decode cX8_clearRegisters 15 = .ok (.invokestatic 27, 3) := by decide +kernel
theorem dX8_clearRegisters_18 : decode cX8_clearRegisters 18 = .ok (.iinc 1 1, 3) := by decide +kernel
theorem dX8_clearRegisters_21 : decode cX8_clearRegisters 21 = .ok (.goto (-19), 3) := by decide +kernel
theorem dX8_clearRegisters_24 : decode cX8_clearRegisters 24 = .ok (.return_, 1) := by decide +kernel
theorem dX8_takeActed_0 : decode cX8_takeActed 0 = .ok (.aload_n 0, 1) := by decide +kernel
theorem dX8_takeActed_1 : decode cX8_takeActed 1 = .ok (.getfield 12, 3) := by decide +kernel
theorem dX8_takeActed_4 : decode cX8_takeActed 4 = .ok (.aload_n 1, 1) := by decide +kernel
theorem dX8_takeActed_5 : decode cX8_takeActed 5 = .ok (.getfield 12, 3) := by decide +kernel
theorem dX8_takeActed_8 : decode cX8_takeActed 8 = .ok (.invokevirtual 33, 3) := by decide +kernel
theorem dX8_takeActed_11 : decode cX8_takeActed 11 = .ok (.iconst 0, 1) := by decide +kernel
theorem dX8_takeActed_12 : decode cX8_takeActed 12 = .ok (.istore_n 2, 1) := by decide +kernel
theorem dX8_takeActed_13 : decode cX8_takeActed 13 = .ok (.iload_n 2, 1) := by decide +kernel
theorem dX8_takeActed_14 : decode cX8_takeActed 14 = .ok (.bipush 10, 2) := by decide +kernel
theorem dX8_takeActed_16 : decode cX8_takeActed 16 = .ok (.if_icmp .ge 24, 3) := by decide +kernel
theorem dX8_takeActed_19 : decode cX8_takeActed 19 = .ok (.aload_n 1, 1) := by decide +kernel
theorem dX8_takeActed_20 : decode cX8_takeActed 20 = .ok (.getfield 20, 3) := by decide +kernel
theorem dX8_takeActed_23 : decode cX8_takeActed 23 = .ok (.iload_n 2, 1) := by decide +kernel
theorem dX8_takeActed_24 : decode cX8_takeActed 24 = .ok (.aaload, 1) := by decide +kernel
theorem dX8_takeActed_25 : decode cX8_takeActed 25 = .ok (.aload_n 0, 1) := by decide +kernel
theorem dX8_takeActed_26 : decode cX8_takeActed 26 = .ok (.getfield 20, 3) := by decide +kernel
theorem dX8_takeActed_29 : decode cX8_takeActed 29 = .ok (.iload_n 2, 1) := by decide +kernel
theorem dX8_takeActed_30 : decode cX8_takeActed 30 = .ok (.aaload, 1) := by decide +kernel
theorem dX8_takeActed_31 : decode cX8_takeActed 31 = .ok (.invokestatic 37, 3) := by decide +kernel
theorem dX8_takeActed_34 : decode cX8_takeActed 34 = .ok (.iinc 2 1, 3) := by decide +kernel
theorem dX8_takeActed_37 : decode cX8_takeActed 37 = .ok (.goto (-24), 3) := by decide +kernel
theorem dX8_takeActed_40 : decode cX8_takeActed 40 = .ok (.return_, 1) := by decide +kernel
theorem dX9_init_0 : decode cX9_init 0 = .ok (.aload_n 0, 1) := by decide +kernel
theorem dX9_init_1 : decode cX9_init 1 = .ok (.invokespecial 3, 3) := by decide +kernel
theorem dX9_init_4 : decode cX9_init 4 = .ok (.aload_n 0, 1) := by decide +kernel
theorem dX9_init_5 : decode cX9_init 5 = .ok (.iconst 0, 1) := by decide +kernel
theorem dX9_init_6 : decode cX9_init 6 = .ok (.putfield 9, 3) := by decide +kernel
theorem dX9_init_9 : decode cX9_init 9 = .ok (.aload_n 0, 1) := by decide +kernel
theorem dX9_init_10 : decode cX9_init 10 = .ok (.sipush 455, 3) := by decide +kernel
theorem dX9_init_13 : decode cX9_init 13 = .ok (.newarray .int, 2) := by decide +kernel
theorem dX9_init_15 : decode cX9_init 15 = .ok (.putfield 15, 3) := by decide +kernel
theorem dX9_init_18 : decode cX9_init 18 = .ok (.aload_n 0, 1) := by decide +kernel
theorem dX9_init_19 : decode cX9_init 19 = .ok (.sipush 455, 3) := by decide +kernel
theorem dX9_init_22 : decode cX9_init 22 = .ok (.newarray .long, 2) := by decide +kernel
theorem dX9_init_24 : decode cX9_init 24 = .ok (.putfield 19, 3) := by decide +kernel
theorem dX9_init_27 : decode cX9_init 27 = .ok (.aload_n 0, 1) := by decide +kernel
theorem dX9_init_28 : decode cX9_init 28 = .ok (.sipush 455, 3) := by decide +kernel
theorem dX9_init_31 : decode cX9_init 31 = .ok (.newarray .int, 2) := by decide +kernel
theorem dX9_init_33 : decode cX9_init 33 = .ok (.putfield 23, 3) := by decide +kernel
theorem dX9_init_36 : decode cX9_init 36 = .ok (.return_, 1) := by decide +kernel
theorem dX9_append_0 : decode cX9_append 0 = .ok (.aload_n 0, 1) := by decide +kernel
theorem dX9_append_1 : decode cX9_append 1 = .ok (.getfield 9, 3) := by decide +kernel
theorem dX9_append_4 : decode cX9_append 4 = .ok (.sipush 455, 3) := by decide +kernel
theorem dX9_append_7 : decode cX9_append 7 = .ok (.if_icmp .ge 46, 3) := by decide +kernel
theorem dX9_append_10 : decode cX9_append 10 = .ok (.aload_n 0, 1) := by decide +kernel
theorem dX9_append_11 : decode cX9_append 11 = .ok (.getfield 15, 3) := by decide +kernel
theorem dX9_append_14 : decode cX9_append 14 = .ok (.aload_n 0, 1) := by decide +kernel
theorem dX9_append_15 : decode cX9_append 15 = .ok (.getfield 9, 3) := by decide +kernel
theorem dX9_append_18 : decode cX9_append 18 = .ok (.iload_n 1, 1) := by decide +kernel
theorem dX9_append_19 : decode cX9_append 19 = .ok (.iastore, 1) := by decide +kernel
theorem dX9_append_20 : decode cX9_append 20 = .ok (.aload_n 0, 1) := by decide +kernel
theorem dX9_append_21 : decode cX9_append 21 = .ok (.getfield 19, 3) := by decide +kernel
theorem dX9_append_24 : decode cX9_append 24 = .ok (.aload_n 0, 1) := by decide +kernel
theorem dX9_append_25 : decode cX9_append 25 = .ok (.getfield 9, 3) := by decide +kernel
theorem dX9_append_28 : decode cX9_append 28 = .ok (.lload_n 2, 1) := by decide +kernel
theorem dX9_append_29 : decode cX9_append 29 = .ok (.lastore, 1) := by decide +kernel
theorem dX9_append_30 : decode cX9_append 30 = .ok (.aload_n 0, 1) := by decide +kernel
theorem dX9_append_31 : decode cX9_append 31 = .ok (.getfield 23, 3) := by decide +kernel
theorem dX9_append_34 : decode cX9_append 34 = .ok (.aload_n 0, 1) := by decide +kernel
theorem dX9_append_35 : decode cX9_append 35 = .ok (.getfield 9, 3) := by decide +kernel
theorem dX9_append_38 : decode cX9_append 38 = .ok (.iload_n 1, 1) := by decide +kernel
theorem dX9_append_39 : decode cX9_append 39 = .ok (.invokestatic 26, 3) := by decide +kernel
theorem dX9_append_42 : decode cX9_append 42 = .ok (.iastore, 1) := by decide +kernel
theorem dX9_append_43 : decode cX9_append 43 = .ok (.aload_n 0, 1) := by decide +kernel
theorem dX9_append_44 : decode cX9_append 44 = .ok (.dup, 1) := by decide +kernel
theorem dX9_append_45 : decode cX9_append 45 = .ok (.getfield 9, 3) := by decide +kernel
theorem dX9_append_48 : decode cX9_append 48 = .ok (.iconst 1, 1) := by decide +kernel
theorem dX9_append_49 : decode cX9_append 49 = .ok (.iadd, 1) := by decide +kernel
theorem dX9_append_50 : decode cX9_append 50 = .ok (.putfield 9, 3) := by decide +kernel
theorem dX9_append_53 : decode cX9_append 53 = .ok (.return_, 1) := by decide +kernel
theorem dX9_value_0 : decode cX9_value 0 = .ok (.lconst 0, 1) := by decide +kernel
theorem dX9_value_1 : decode cX9_value 1 = .ok (.lstore_n 2, 1) := by decide +kernel
theorem dX9_value_2 : decode cX9_value 2 = .ok (.iconst 0, 1) := by decide +kernel
theorem dX9_value_3 : decode cX9_value 3 = .ok (.istore 4, 2) := by decide +kernel
theorem dX9_value_5 : decode cX9_value 5 = .ok (.iload 4, 2) := by decide +kernel
theorem dX9_value_7 : decode cX9_value 7 = .ok (.aload_n 0, 1) := by decide +kernel
theorem dX9_value_8 : decode cX9_value 8 = .ok (.getfield 9, 3) := by decide +kernel
theorem dX9_value_11 : decode cX9_value 11 = .ok (.if_icmp .ge 58, 3) := by decide +kernel
theorem dX9_value_14 : decode cX9_value 14 = .ok (.aload_n 0, 1) := by decide +kernel
theorem dX9_value_15 : decode cX9_value 15 = .ok (.getfield 23, 3) := by decide +kernel
theorem dX9_value_18 : decode cX9_value 18 = .ok (.iload 4, 2) := by decide +kernel
theorem dX9_value_20 : decode cX9_value 20 = .ok (.iaload, 1) := by decide +kernel
theorem dX9_value_21 : decode cX9_value 21 = .ok (.istore 5, 2) := by decide +kernel
theorem dX9_value_23 : decode cX9_value 23 = .ok (.lload_n 2, 1) := by decide +kernel
theorem dX9_value_24 : decode cX9_value 24 = .ok (.aload_n 0, 1) := by decide +kernel
theorem dX9_value_25 : decode cX9_value 25 = .ok (.getfield 19, 3) := by decide +kernel
theorem dX9_value_28 : decode cX9_value 28 = .ok (.iload 4, 2) := by decide +kernel
theorem dX9_value_30 : decode cX9_value 30 = .ok (.laload, 1) := by decide +kernel
theorem dX9_value_31 : decode cX9_value 31 = .ok (.aload_n 1, 1) := by decide +kernel
theorem dX9_value_32 : decode cX9_value 32 = .ok (.iload 5, 2) := by decide +kernel
theorem dX9_value_34 : decode cX9_value 34 = .ok (.bipush 63, 2) := by decide +kernel
theorem dX9_value_36 : decode cX9_value 36 = .ok (.iand, 1) := by decide +kernel
theorem dX9_value_37 : decode cX9_value 37 = .ok (.laload, 1) := by decide +kernel
theorem dX9_value_38 : decode cX9_value 38 = .ok (.lmul, 1) := by decide +kernel
theorem dX9_value_39 : decode cX9_value 39 = .ok (.aload_n 1, 1) := by decide +kernel
theorem dX9_value_40 : decode cX9_value 40 = .ok (.iload 5, 2) := by decide +kernel
theorem dX9_value_42 : decode cX9_value 42 = .ok (.bipush 6, 2) := by decide +kernel
theorem dX9_value_44 : decode cX9_value 44 = .ok (.ishr, 1) := by decide +kernel
theorem dX9_value_45 : decode cX9_value 45 = .ok (.bipush 63, 2) := by decide +kernel
theorem dX9_value_47 : decode cX9_value 47 = .ok (.iand, 1) := by decide +kernel
theorem dX9_value_48 : decode cX9_value 48 = .ok (.laload, 1) := by decide +kernel
theorem dX9_value_49 : decode cX9_value 49 = .ok (.lmul, 1) := by decide +kernel
theorem dX9_value_50 : decode cX9_value 50 = .ok (.aload_n 1, 1) := by decide +kernel
theorem dX9_value_51 : decode cX9_value 51 = .ok (.iload 5, 2) := by decide +kernel
theorem dX9_value_53 : decode cX9_value 53 = .ok (.bipush 12, 2) := by decide +kernel
theorem dX9_value_55 : decode cX9_value 55 = .ok (.ishr, 1) := by decide +kernel
theorem dX9_value_56 : decode cX9_value 56 = .ok (.bipush 63, 2) := by decide +kernel
theorem dX9_value_58 : decode cX9_value 58 = .ok (.iand, 1) := by decide +kernel
theorem dX9_value_59 : decode cX9_value 59 = .ok (.laload, 1) := by decide +kernel
theorem dX9_value_60 : decode cX9_value 60 = .ok (.lmul, 1) := by decide +kernel
theorem dX9_value_61 : decode cX9_value 61 = .ok (.ladd, 1) := by decide +kernel
theorem dX9_value_62 : decode cX9_value 62 = .ok (.lstore_n 2, 1) := by decide +kernel
theorem dX9_value_63 : decode cX9_value 63 = .ok (.iinc 4 1, 3) := by decide +kernel
theorem dX9_value_66 : decode cX9_value 66 = .ok (.goto (-61), 3) := by decide +kernel
theorem dX9_value_69 : decode cX9_value 69 = .ok (.lload_n 2, 1) := by decide +kernel
theorem dX9_value_70 : decode cX9_value 70 = .ok (.lreturn, 1) := by decide +kernel
theorem dX9_placesOf_0 : decode cX9_placesOf 0 = .ok (.iconst 0, 1) := by decide +kernel
theorem dX9_placesOf_1 : decode cX9_placesOf 1 = .ok (.istore_n 1, 1) := by decide +kernel
theorem dX9_placesOf_2 : decode cX9_placesOf 2 = .ok (.iconst 0, 1) := by decide +kernel
theorem dX9_placesOf_3 : decode cX9_placesOf 3 = .ok (.istore_n 2, 1) := by decide +kernel
theorem dX9_placesOf_4 : decode cX9_placesOf 4 = .ok (.iload_n 2, 1) := by decide +kernel
theorem dX9_placesOf_5 : decode cX9_placesOf 5 = .ok (.bipush 12, 2) := by decide +kernel
theorem dX9_placesOf_7 : decode cX9_placesOf 7 = .ok (.if_icmp .ge 30, 3) := by decide +kernel
theorem dX9_placesOf_10 : decode cX9_placesOf 10 = .ok (.iload_n 0, 1) := by decide +kernel
theorem dX9_placesOf_11 : decode cX9_placesOf 11 = .ok (.iload_n 2, 1) := by decide +kernel
theorem dX9_placesOf_12 : decode cX9_placesOf 12 = .ok (.invokestatic 34, 3) := by decide +kernel
theorem dX9_placesOf_15 : decode cX9_placesOf 15 = .ok (.istore_n 3, 1) := by decide +kernel
theorem dX9_placesOf_16 : decode cX9_placesOf 16 = .ok (.iload_n 3, 1) := by decide +kernel
theorem dX9_placesOf_17 : decode cX9_placesOf 17 = .ok (.ifCond .le 14, 3) := by decide +kernel
theorem dX9_placesOf_20 : decode cX9_placesOf 20 = .ok (.iload_n 1, 1) := by decide +kernel
theorem dX9_placesOf_21 : decode cX9_placesOf 21 = .ok (.bipush 6, 2) := by decide +kernel
theorem dX9_placesOf_23 : decode cX9_placesOf 23 = .ok (.ishl, 1) := by decide +kernel
theorem dX9_placesOf_24 : decode cX9_placesOf 24 = .ok (.iconst 4, 1) := by decide +kernel
theorem dX9_placesOf_25 : decode cX9_placesOf 25 = .ok (.iload_n 2, 1) := by decide +kernel
theorem dX9_placesOf_26 : decode cX9_placesOf 26 = .ok (.imul, 1) := by decide +kernel
theorem dX9_placesOf_27 : decode cX9_placesOf 27 = .ok (.iload_n 3, 1) := by decide +kernel
theorem dX9_placesOf_28 : decode cX9_placesOf 28 = .ok (.iadd, 1) := by decide +kernel
theorem dX9_placesOf_29 : decode cX9_placesOf 29 = .ok (.ior, 1) := by decide +kernel
theorem dX9_placesOf_30 : decode cX9_placesOf 30 = .ok (.istore_n 1, 1) := by decide +kernel
theorem dX9_placesOf_31 : decode cX9_placesOf 31 = .ok (.iinc 2 1, 3) := by decide +kernel
theorem dX9_placesOf_34 : decode cX9_placesOf 34 = .ok (.goto (-30), 3) := by decide +kernel
theorem dX9_placesOf_37 : decode cX9_placesOf 37 = .ok (.iload_n 1, 1) := by decide +kernel
theorem dX9_placesOf_38 : decode cX9_placesOf 38 = .ok (.ireturn, 1) := by decide +kernel
theorem dX10_init_0 : decode cX10_init 0 = .ok (.aload_n 0, 1) := by decide +kernel
theorem dX10_init_1 : decode cX10_init 1 = .ok (.invokespecial 3, 3) := by decide +kernel
theorem dX10_init_4 : decode cX10_init 4 = .ok (.aload_n 0, 1) := by decide +kernel
theorem dX10_init_5 : decode cX10_init 5 = .ok (.new 9, 3) := by decide +kernel
theorem dX10_init_8 : decode cX10_init 8 = .ok (.dup, 1) := by decide +kernel
theorem dX10_init_9 : decode cX10_init 9 = .ok (.invokespecial 11, 3) := by decide +kernel
theorem dX10_init_12 : decode cX10_init 12 = .ok (.putfield 12, 3) := by decide +kernel
theorem dX10_init_15 : decode cX10_init 15 = .ok (.aload_n 0, 1) := by decide +kernel
theorem dX10_init_16 : decode cX10_init 16 = .ok (.new 9, 3) := by decide +kernel
theorem dX10_init_19 : decode cX10_init 19 = .ok (.dup, 1) := by decide +kernel
theorem dX10_init_20 : decode cX10_init 20 = .ok (.invokespecial 11, 3) := by decide +kernel
theorem dX10_init_23 : decode cX10_init 23 = .ok (.putfield 16, 3) := by decide +kernel
theorem dX10_init_26 : decode cX10_init 26 = .ok (.aload_n 0, 1) := by decide +kernel
theorem dX10_init_27 : decode cX10_init 27 = .ok (.iconst 0, 1) := by decide +kernel
theorem dX10_init_28 : decode cX10_init 28 = .ok (.putfield 19, 3) := by decide +kernel
theorem dX10_init_31 : decode cX10_init 31 = .ok (.aload_n 0, 1) := by decide +kernel
theorem dX10_init_32 : decode cX10_init 32 = .ok (.bipush 8, 2) := by decide +kernel
theorem dX10_init_34 : decode cX10_init 34 = .ok (.anewarray 9, 3) := by decide +kernel
theorem dX10_init_37 : decode cX10_init 37 = .ok (.putfield 23, 3) := by decide +kernel
theorem dX10_init_40 : decode cX10_init 40 = .ok (.aload_n 0, 1) := by decide +kernel
theorem dX10_init_41 : decode cX10_init 41 = .ok (.iconst 0, 1) := by decide +kernel
theorem dX10_init_42 : decode cX10_init 42 = .ok (.putfield 27, 3) := by decide +kernel
theorem dX10_init_45 : decode cX10_init 45 = .ok (.aload_n 0, 1) := by decide +kernel
theorem dX10_init_46 : decode cX10_init 46 = .ok (.iconst 0, 1) := by decide +kernel
theorem dX10_init_47 : decode cX10_init 47 = .ok (.putfield 31, 3) := by decide +kernel
theorem dX10_init_50 : decode cX10_init 50 = .ok (.aload_n 0, 1) := by decide +kernel
theorem dX10_init_51 : decode cX10_init 51 = .ok (.sipush 200, 3) := by decide +kernel
theorem dX10_init_54 : decode cX10_init 54 = .ok (.newarray .int, 2) := by decide +kernel
theorem dX10_init_56 : decode cX10_init 56 = .ok (.putfield 34, 3) := by decide +kernel
theorem dX10_init_59 : decode cX10_init 59 = .ok (.aload_n 0, 1) := by decide +kernel
theorem dX10_init_60 : decode cX10_init 60 = .ok (.iconst 0, 1) := by decide +kernel
theorem dX10_init_61 : decode cX10_init 61 = .ok (.putfield 38, 3) := by decide +kernel
theorem dX10_init_64 : decode cX10_init 64 = .ok (.aload_n 0, 1) := by decide +kernel
theorem dX10_init_65 : decode cX10_init 65 = .ok (.new 41, 3) := by decide +kernel
theorem dX10_init_68 : decode cX10_init 68 = .ok (.dup, 1) := by decide +kernel
theorem dX10_init_69 : decode cX10_init 69 = .ok (.invokespecial 43, 3) := by decide +kernel
theorem dX10_init_72 : decode cX10_init 72 = .ok (.putfield 44, 3) := by decide +kernel
theorem dX10_init_75 : decode cX10_init 75 = .ok (.aload_n 0, 1) := by decide +kernel
theorem dX10_init_76 : decode cX10_init 76 = .ok (.new 48, 3) := by decide +kernel
theorem dX10_init_79 : decode cX10_init 79 = .ok (.dup, 1) := by decide +kernel
theorem dX10_init_80 : decode cX10_init 80 = .ok (.aload_n 0, 1) := by decide +kernel
theorem dX10_init_81 : decode cX10_init 81 = .ok (.getfield 44, 3) := by decide +kernel
theorem dX10_init_84 : decode cX10_init 84 = .ok (.invokespecial 50, 3) := by decide +kernel
theorem dX10_init_87 : decode cX10_init 87 = .ok (.putfield 53, 3) := by decide +kernel
theorem dX10_init_90 : decode cX10_init 90 = .ok (.aload_n 0, 1) := by decide +kernel
theorem dX10_init_91 : decode cX10_init 91 = .ok (.new 57, 3) := by decide +kernel
theorem dX10_init_94 : decode cX10_init 94 = .ok (.dup, 1) := by decide +kernel
theorem dX10_init_95 : decode cX10_init 95 = .ok (.aload_n 0, 1) := by decide +kernel
theorem dX10_init_96 : decode cX10_init 96 = .ok (.getfield 53, 3) := by decide +kernel
theorem dX10_init_99 : decode cX10_init 99 = .ok (.invokespecial 59, 3) := by decide +kernel
theorem dX10_init_102 : decode cX10_init 102 = .ok (.putfield 62, 3) := by decide +kernel
theorem dX10_init_105 : decode cX10_init 105 = .ok (.aload_n 0, 1) := by decide +kernel
theorem dX10_init_106 : decode cX10_init 106 = .ok (.new 66, 3) := by decide +kernel
theorem dX10_init_109 : decode cX10_init 109 = .ok (.dup, 1) := by decide +kernel
theorem dX10_init_110 : decode cX10_init 110 = .ok (.aload_n 0, 1) := by decide +kernel
theorem dX10_init_111 : decode cX10_init 111 = .ok (.getfield 53, 3) := by decide +kernel
theorem dX10_init_114 : decode cX10_init 114 = .ok (.invokespecial 68, 3) := by decide +kernel
theorem dX10_init_117 : decode cX10_init 117 = .ok (.putfield 69, 3) := by decide +kernel
theorem dX10_init_120 : decode cX10_init 120 = .ok (.aload_n 0, 1) := by decide +kernel
theorem dX10_init_121 : decode cX10_init 121 = .ok (.new 73, 3) := by decide +kernel
theorem dX10_init_124 : decode cX10_init 124 = .ok (.dup, 1) := by decide +kernel
theorem dX10_init_125 : decode cX10_init 125 = .ok (.aload_n 0, 1) := by decide +kernel
theorem dX10_init_126 : decode cX10_init 126 = .ok (.getfield 53, 3) := by decide +kernel
theorem dX10_init_129 : decode cX10_init 129 = .ok (.aload_n 0, 1) := by decide +kernel
theorem dX10_init_130 : decode cX10_init 130 = .ok (.getfield 62, 3) := by decide +kernel
theorem dX10_init_133 : decode cX10_init 133 = .ok (.invokespecial 75, 3) := by decide +kernel
theorem dX10_init_136 : decode cX10_init 136 = .ok (.putfield 78, 3) := by decide +kernel
theorem dX10_init_139 : decode cX10_init 139 = .ok (.aload_n 0, 1) := by decide +kernel
theorem dX10_init_140 : decode cX10_init 140 = .ok (.new 82, 3) := by decide +kernel
theorem dX10_init_143 : decode cX10_init 143 = .ok (.dup, 1) := by decide +kernel
theorem dX10_init_144 : decode cX10_init 144 = .ok (.invokespecial 84, 3) := by decide +kernel
theorem dX10_init_147 : decode cX10_init 147 = .ok (.putfield 85, 3) := by decide +kernel
theorem dX10_init_150 : decode cX10_init 150 = .ok (.aload_n 0, 1) := by decide +kernel
theorem dX10_init_151 : decode cX10_init 151 = .ok (.new 89, 3) := by decide +kernel
theorem dX10_init_154 : decode cX10_init 154 = .ok (.dup, 1) := by decide +kernel
theorem dX10_init_155 : decode cX10_init 155 = .ok (.aload_n 0, 1) := by decide +kernel
theorem dX10_init_156 : decode cX10_init 156 = .ok (.getfield 12, 3) := by decide +kernel
theorem dX10_init_159 : decode cX10_init 159 = .ok (.aload_n 0, 1) := by decide +kernel
theorem dX10_init_160 : decode cX10_init 160 = .ok (.getfield 62, 3) := by decide +kernel
theorem dX10_init_163 : decode cX10_init 163 = .ok (.invokespecial 91, 3) := by decide +kernel
theorem dX10_init_166 : decode cX10_init 166 = .ok (.putfield 94, 3) := by decide +kernel
theorem dX10_init_169 : decode cX10_init 169 = .ok (.aload_n 0, 1) := by decide +kernel
theorem dX10_init_170 : decode cX10_init 170 = .ok (.bipush 6, 2) := by decide +kernel
theorem dX10_init_172 : decode cX10_init 172 = .ok (.newarray .long, 2) := by decide +kernel
theorem dX10_init_174 : decode cX10_init 174 = .ok (.putfield 98, 3) := by decide +kernel
theorem dX10_init_177 : decode cX10_init 177 = .ok (.aload_n 0, 1) := by decide +kernel
theorem dX10_init_178 : decode cX10_init 178 = .ok (.bipush 6, 2) := by decide +kernel
theorem dX10_init_180 : decode cX10_init 180 = .ok (.newarray .long, 2) := by decide +kernel
theorem dX10_init_182 : decode cX10_init 182 = .ok (.putfield 102, 3) := by decide +kernel
theorem dX10_init_185 : decode cX10_init 185 = .ok (.iconst 0, 1) := by decide +kernel
theorem dX10_init_186 : decode cX10_init 186 = .ok (.istore_n 1, 1) := by decide +kernel
theorem dX10_init_187 : decode cX10_init 187 = .ok (.iload_n 1, 1) := by decide +kernel
theorem dX10_init_188 : decode cX10_init 188 = .ok (.bipush 8, 2) := by decide +kernel
theorem dX10_init_190 : decode cX10_init 190 = .ok (.if_icmp .ge 22, 3) := by decide +kernel
theorem dX10_init_193 : decode cX10_init 193 = .ok (.aload_n 0, 1) := by decide +kernel
theorem dX10_init_194 : decode cX10_init 194 = .ok (.getfield 23, 3) := by decide +kernel
theorem dX10_init_197 : decode cX10_init 197 = .ok (.iload_n 1, 1) := by decide +kernel
theorem dX10_init_198 : decode cX10_init 198 = .ok (.new 9, 3) := by decide +kernel
theorem dX10_init_201 : decode cX10_init 201 = .ok (.dup, 1) := by decide +kernel
theorem dX10_init_202 : decode cX10_init 202 = .ok (.invokespecial 11, 3) := by decide +kernel
theorem dX10_init_205 : decode cX10_init 205 = .ok (.aastore, 1) := by decide +kernel
theorem dX10_init_206 : decode cX10_init 206 = .ok (.iinc 1 1, 3) := by decide +kernel
theorem dX10_init_209 : decode cX10_init 209 = .ok (.goto (-22), 3) := by decide +kernel
theorem dX10_init_212 : decode cX10_init 212 = .ok (.aload_n 0, 1) := by decide +kernel
theorem dX10_init_213 : decode cX10_init 213 = .ok (.getfield 12, 3) := by decide +kernel
theorem dX10_init_216 : decode cX10_init 216 = .ok (.getfield 105, 3) := by decide +kernel
theorem dX10_init_219 : decode cX10_init 219 = .ok (.iconst 0, 1) := by decide +kernel
theorem dX10_init_220 : decode cX10_init 220 = .ok (.invokevirtual 109, 3) := by decide +kernel
theorem dX10_init_223 : decode cX10_init 223 = .ok (.aload_n 0, 1) := by decide +kernel
theorem dX10_init_224 : decode cX10_init 224 = .ok (.getfield 53, 3) := by decide +kernel
theorem dX10_init_227 : decode cX10_init 227 = .ok (.aload_n 0, 1) := by decide +kernel
theorem dX10_init_228 : decode cX10_init 228 = .ok (.getfield 12, 3) := by decide +kernel
theorem dX10_init_231 : decode cX10_init 231 = .ok (.getfield 105, 3) := by decide +kernel
theorem dX10_init_234 : decode cX10_init 234 = .ok (.invokevirtual 115, 3) := by decide +kernel
theorem dX10_init_237 : decode cX10_init 237 = .ok (.return_, 1) := by decide +kernel
theorem dX10_group_0 : decode cX10_group 0 = .ok (.iload_n 1, 1) := by decide +kernel
theorem dX10_group_1 : decode cX10_group 1 = .ok (.iload_n 2, 1) := by decide +kernel
theorem dX10_group_2 : decode cX10_group 2 = .ok (.invokestatic 119, 3) := by decide +kernel
theorem dX10_group_5 : decode cX10_group 5 = .ok (.ifCond .ne 5, 3) := by decide +kernel
theorem dX10_group_8 : decode cX10_group 8 = .ok (.iconst 0, 1) := by decide +kernel
theorem dX10_group_9 : decode cX10_group 9 = .ok (.ireturn, 1) := by decide +kernel
theorem dX10_group_10 : decode cX10_group 10 = .ok (.aload_n 0, 1) := by decide +kernel
theorem dX10_group_11 : decode cX10_group 11 = .ok (.invokevirtual 123, 3) := by decide +kernel
theorem dX10_group_14 : decode cX10_group 14 = .ok (.aload_n 0, 1) := by decide +kernel
theorem dX10_group_15 : decode cX10_group 15 = .ok (.getfield 12, 3) := by decide +kernel
theorem dX10_group_18 : decode cX10_group 18 = .ok (.getfield 105, 3) := by decide +kernel
theorem dX10_group_21 : decode cX10_group 21 = .ok (.iload_n 1, 1) := by decide +kernel
theorem dX10_group_22 : decode cX10_group 22 = .ok (.iload_n 2, 1) := by decide +kernel
theorem dX10_group_23 : decode cX10_group 23 = .ok (.invokevirtual 126, 3) := by decide +kernel
theorem dX10_group_26 : decode cX10_group 26 = .ok (.aload_n 0, 1) := by decide +kernel
theorem dX10_group_27 : decode cX10_group 27 = .ok (.getfield 53, 3) := by decide +kernel
theorem dX10_group_30 : decode cX10_group 30 = .ok (.aload_n 0, 1) := by decide +kernel
theorem dX10_group_31 : decode cX10_group 31 = .ok (.getfield 12, 3) := by decide +kernel
theorem dX10_group_34 : decode cX10_group 34 = .ok (.getfield 105, 3) := by decide +kernel
theorem dX10_group_37 : decode cX10_group 37 = .ok (.invokevirtual 115, 3) := by decide +kernel
theorem dX10_group_40 : decode cX10_group 40 = .ok (.iconst 1, 1) := by decide +kernel
theorem dX10_group_41 : decode cX10_group 41 = .ok (.ireturn, 1) := by decide +kernel
theorem dX10_tail_0 : decode cX10_tail 0 = .ok (.aload_n 0, 1) := by decide +kernel
theorem dX10_tail_1 : decode cX10_tail 1 = .ok (.getfield 12, 3) := by decide +kernel
theorem dX10_tail_4 : decode cX10_tail 4 = .ok (.getfield 105, 3) := by decide +kernel
theorem dX10_tail_7 : decode cX10_tail 7 = .ok (.iload_n 1, 1) := by decide +kernel
theorem dX10_tail_8 : decode cX10_tail 8 = .ok (.iconst 1, 1) := by decide +kernel
theorem dX10_tail_9 : decode cX10_tail 9 = .ok (.isub, 1) := by decide +kernel
theorem dX10_tail_10 : decode cX10_tail 10 = .ok (.iload_n 2, 1) := by decide +kernel
theorem dX10_tail_11 : decode cX10_tail 11 = .ok (.iconst 1, 1) := by decide +kernel
theorem dX10_tail_12 : decode cX10_tail 12 = .ok (.isub, 1) := by decide +kernel
theorem dX10_tail_13 : decode cX10_tail 13 = .ok (.iload_n 3, 1) := by decide +kernel
theorem dX10_tail_14 : decode cX10_tail 14 = .ok (.iconst 1, 1) := by decide +kernel
theorem dX10_tail_15 : decode cX10_tail 15 = .ok (.isub, 1) := by decide +kernel
theorem dX10_tail_16 : decode cX10_tail 16 = .ok (.iload 4, 2) := by decide +kernel
theorem dX10_tail_18 : decode cX10_tail 18 = .ok (.invokevirtual 130, 3) := by decide +kernel
theorem dX10_tail_21 : decode cX10_tail 21 = .ok (.ifCond .ne 5, 3) := by decide +kernel
theorem dX10_tail_24 : decode cX10_tail 24 = .ok (.iconst 0, 1) := by decide +kernel
theorem dX10_tail_25 : decode cX10_tail 25 = .ok (.ireturn, 1) := by decide +kernel
theorem dX10_tail_26 : decode cX10_tail 26 = .ok (.aload_n 0, 1) := by decide +kernel
theorem dX10_tail_27 : decode cX10_tail 27 = .ok (.invokevirtual 123, 3) := by decide +kernel
theorem dX10_tail_30 : decode cX10_tail 30 = .ok (.aload_n 0, 1) := by decide +kernel
theorem dX10_tail_31 : decode cX10_tail 31 = .ok (.getfield 12, 3) := by decide +kernel
theorem dX10_tail_34 : decode cX10_tail 34 = .ok (.getfield 105, 3) := by decide +kernel
theorem dX10_tail_37 : decode cX10_tail 37 = .ok (.iload_n 1, 1) := by decide +kernel
theorem dX10_tail_38 : decode cX10_tail 38 = .ok (.iconst 1, 1) := by decide +kernel
theorem dX10_tail_39 : decode cX10_tail 39 = .ok (.isub, 1) := by decide +kernel
theorem dX10_tail_40 : decode cX10_tail 40 = .ok (.iload_n 2, 1) := by decide +kernel
theorem dX10_tail_41 : decode cX10_tail 41 = .ok (.iconst 1, 1) := by decide +kernel
theorem dX10_tail_42 : decode cX10_tail 42 = .ok (.isub, 1) := by decide +kernel
theorem dX10_tail_43 : decode cX10_tail 43 = .ok (.iload_n 3, 1) := by decide +kernel
theorem dX10_tail_44 : decode cX10_tail 44 = .ok (.iconst 1, 1) := by decide +kernel
theorem dX10_tail_45 : decode cX10_tail 45 = .ok (.isub, 1) := by decide +kernel
theorem dX10_tail_46 : decode cX10_tail 46 = .ok (.iload 4, 2) := by decide +kernel
theorem dX10_tail_48 : decode cX10_tail 48 = .ok (.invokevirtual 134, 3) := by decide +kernel
theorem dX10_tail_51 : decode cX10_tail 51 = .ok (.aload_n 0, 1) := by decide +kernel
theorem dX10_tail_52 : decode cX10_tail 52 = .ok (.getfield 53, 3) := by decide +kernel
theorem dX10_tail_55 : decode cX10_tail 55 = .ok (.aload_n 0, 1) := by decide +kernel
theorem dX10_tail_56 : decode cX10_tail 56 = .ok (.getfield 12, 3) := by decide +kernel
theorem dX10_tail_59 : decode cX10_tail 59 = .ok (.getfield 105, 3) := by decide +kernel
theorem dX10_tail_62 : decode cX10_tail 62 = .ok (.invokevirtual 115, 3) := by decide +kernel
theorem dX10_tail_65 : decode cX10_tail 65 = .ok (.iconst 1, 1) := by decide +kernel
theorem dX10_tail_66 : decode cX10_tail 66 = .ok (.ireturn, 1) := by decide +kernel
theorem dX10_kind_0 : decode cX10_kind 0 = .ok (.iload_n 1, 1) := by decide +kernel
theorem dX10_kind_1 : decode cX10_kind 1 = .ok (.ifCond .lt 11, 3) := by decide +kernel
theorem dX10_kind_4 : decode cX10_kind 4 = .ok (.iload_n 1, 1) := by decide +kernel
theorem dX10_kind_5 : decode cX10_kind 5 = .ok (.getstatic 138, 3) := by decide +kernel
theorem dX10_kind_8 : decode cX10_kind 8 = .ok (.arraylength, 1) := by decide +kernel
theorem dX10_kind_9 : decode cX10_kind 9 = .ok (.if_icmp .lt 5, 3) := by decide +kernel
theorem dX10_kind_12 : decode cX10_kind 12 = .ok (.iconst 0, 1) := by decide +kernel
theorem dX10_kind_13 : decode cX10_kind 13 = .ok (.ireturn, 1) := by decide +kernel
theorem dX10_kind_14 : decode cX10_kind 14 = .ok (.aload_n 0, 1) := by decide +kernel
theorem dX10_kind_15 : decode cX10_kind 15 = .ok (.invokevirtual 123, 3) := by decide +kernel
theorem dX10_kind_18 : decode cX10_kind 18 = .ok (.aload_n 0, 1) := by decide +kernel
theorem dX10_kind_19 : decode cX10_kind 19 = .ok (.getfield 12, 3) := by decide +kernel
theorem dX10_kind_22 : decode cX10_kind 22 = .ok (.getfield 105, 3) := by decide +kernel
theorem dX10_kind_25 : decode cX10_kind 25 = .ok (.iload_n 1, 1) := by decide +kernel
theorem dX10_kind_26 : decode cX10_kind 26 = .ok (.invokevirtual 109, 3) := by decide +kernel
theorem dX10_kind_29 : decode cX10_kind 29 = .ok (.aload_n 0, 1) := by decide +kernel
theorem dX10_kind_30 : decode cX10_kind 30 = .ok (.getfield 53, 3) := by decide +kernel
theorem dX10_kind_33 : decode cX10_kind 33 = .ok (.aload_n 0, 1) := by decide +kernel
theorem dX10_kind_34 : decode cX10_kind 34 = .ok (.getfield 12, 3) := by decide +kernel
theorem dX10_kind_37 : decode cX10_kind 37 = .ok (.getfield 105, 3) := by decide +kernel
theorem dX10_kind_40 : decode cX10_kind 40 = .ok (.invokevirtual 115, 3) := by decide +kernel
theorem dX10_kind_43 : decode cX10_kind 43 = .ok (.iconst 1, 1) := by decide +kernel
theorem dX10_kind_44 : decode cX10_kind 44 = .ok (.ireturn, 1) := by decide +kernel
theorem dX10_consistent_0 : decode cX10_consistent 0 = .ok (.aload_n 0, 1) := by decide +kernel
theorem dX10_consistent_1 : decode cX10_consistent 1 = .ok (.getfield 53, 3) := by decide +kernel
theorem dX10_consistent_4 : decode cX10_consistent 4 = .ok (.getfield 141, 3) := by decide +kernel
theorem dX10_consistent_7 : decode cX10_consistent 7 = .ok (.invokestatic 144, 3) := by decide +kernel
theorem dX10_consistent_10 : decode cX10_consistent 10 = .ok (.ireturn, 1) := by decide +kernel
theorem dX10_terms_0 : decode cX10_terms 0 = .ok (.aload_n 0, 1) := by decide +kernel
theorem dX10_terms_1 : decode cX10_terms 1 = .ok (.iload_n 1, 1) := by decide +kernel
theorem dX10_terms_2 : decode cX10_terms 2 = .ok (.invokevirtual 166, 3) := by decide +kernel
theorem dX10_terms_5 : decode cX10_terms 5 = .ok (.ifCond .eq 20, 3) := by decide +kernel
theorem dX10_terms_8 : decode cX10_terms 8 = .ok (.aload_n 0, 1) := by decide +kernel
theorem dX10_terms_9 : decode cX10_terms 9 = .ok (.getfield 53, 3) := by decide +kernel
theorem dX10_terms_12 : decode cX10_terms 12 = .ok (.getfield 169, 3) := by decide +kernel
theorem dX10_terms_15 : decode cX10_terms 15 = .ok (.iload_n 1, 1) := by decide +kernel
theorem dX10_terms_16 : decode cX10_terms 16 = .ok (.iconst 1, 1) := by decide +kernel
theorem dX10_terms_17 : decode cX10_terms 17 = .ok (.isub, 1) := by decide +kernel
theorem dX10_terms_18 : decode cX10_terms 18 = .ok (.aaload, 1) := by decide +kernel
theorem dX10_terms_19 : decode cX10_terms 19 = .ok (.getfield 173, 3) := by decide +kernel
theorem dX10_terms_22 : decode cX10_terms 22 = .ok (.goto 4, 3) := by decide +kernel
theorem dX10_terms_25 : decode cX10_terms 25 = .ok (.iconst (-1), 1) := by decide +kernel
theorem dX10_terms_26 : decode cX10_terms 26 = .ok (.ireturn, 1) := by decide +kernel
theorem dX10_set_0 : decode cX10_set 0 = .ok (.iload_n 1, 1) := by decide +kernel
theorem dX10_set_1 : decode cX10_set 1 = .ok (.invokestatic 204, 3) := by decide +kernel
theorem dX10_set_4 : decode cX10_set 4 = .ok (.ifCond .eq 21, 3) := by decide +kernel
theorem dX10_set_7 : decode cX10_set 7 = .ok (.aload_n 0, 1) := by decide +kernel
theorem dX10_set_8 : decode cX10_set 8 = .ok (.iload_n 2, 1) := by decide +kernel
theorem dX10_set_9 : decode cX10_set 9 = .ok (.invokevirtual 148, 3) := by decide +kernel
theorem dX10_set_12 : decode cX10_set 12 = .ok (.ifCond .eq 13, 3) := by decide +kernel
theorem dX10_set_15 : decode cX10_set 15 = .ok (.aload_n 0, 1) := by decide +kernel
theorem dX10_set_16 : decode cX10_set 16 = .ok (.getfield 53, 3) := by decide +kernel
theorem dX10_set_19 : decode cX10_set 19 = .ok (.getfield 141, 3) := by decide +kernel
theorem dX10_set_22 : decode cX10_set 22 = .ok (.ifCond .ne 5, 3) := by decide +kernel
theorem dX10_set_25 : decode cX10_set 25 = .ok (.iconst 0, 1) := by decide +kernel
theorem dX10_set_26 : decode cX10_set 26 = .ok (.ireturn, 1) := by decide +kernel
theorem dX10_set_27 : decode cX10_set 27 = .ok (.iload_n 3, 1) := by decide +kernel
theorem dX10_set_28 : decode cX10_set 28 = .ok (.sipush (-999), 3) := by decide +kernel
theorem dX10_set_31 : decode cX10_set 31 = .ok (.if_icmp .lt 10, 3) := by decide +kernel
theorem dX10_set_34 : decode cX10_set 34 = .ok (.iload_n 3, 1) := by decide +kernel
theorem dX10_set_35 : decode cX10_set 35 = .ok (.sipush 999, 3) := by decide +kernel
theorem dX10_set_38 : decode cX10_set 38 = .ok (.if_icmp .le 5, 3) := by decide +kernel
theorem dX10_set_41 : decode cX10_set 41 = .ok (.iconst 0, 1) := by decide +kernel
theorem dX10_set_42 : decode cX10_set 42 = .ok (.ireturn, 1) := by decide +kernel
theorem dX10_set_43 : decode cX10_set 43 = .ok (.aload_n 0, 1) := by decide +kernel
theorem dX10_set_44 : decode cX10_set 44 = .ok (.invokevirtual 207, 3) := by decide +kernel
theorem dX10_set_47 : decode cX10_set 47 = .ok (.aload_n 0, 1) := by decide +kernel
theorem dX10_set_48 : decode cX10_set 48 = .ok (.getfield 12, 3) := by decide +kernel
theorem dX10_set_51 : decode cX10_set 51 = .ok (.getfield 210, 3) := by decide +kernel
theorem dX10_set_54 : decode cX10_set 54 = .ok (.iload_n 1, 1) := by decide +kernel
theorem dX10_set_55 : decode cX10_set 55 = .ok (.aaload, 1) := by decide +kernel
theorem dX10_set_56 : decode cX10_set 56 = .ok (.iload_n 2, 1) := by decide +kernel
theorem dX10_set_57 : decode cX10_set 57 = .ok (.iconst 1, 1) := by decide +kernel
theorem dX10_set_58 : decode cX10_set 58 = .ok (.isub, 1) := by decide +kernel
theorem dX10_set_59 : decode cX10_set 59 = .ok (.iload_n 3, 1) := by decide +kernel
theorem dX10_set_60 : decode cX10_set 60 = .ok (.i2l, 1) := by decide +kernel
theorem dX10_set_61 : decode cX10_set 61 = .ok (.lastore, 1) := by decide +kernel
theorem dX10_set_62 : decode cX10_set 62 = .ok (.iconst 1, 1) := by decide +kernel
theorem dX10_set_63 : decode cX10_set 63 = .ok (.ireturn, 1) := by decide +kernel
theorem dX10_multiply_0 : decode cX10_multiply 0 = .ok (.aload_n 0, 1) := by decide +kernel
theorem dX10_multiply_1 : decode cX10_multiply 1 = .ok (.iload_n 1, 1) := by decide +kernel
theorem dX10_multiply_2 : decode cX10_multiply 2 = .ok (.iload_n 2, 1) := by decide +kernel
theorem dX10_multiply_3 : decode cX10_multiply 3 = .ok (.invokevirtual 214, 3) := by decide +kernel
theorem dX10_multiply_6 : decode cX10_multiply 6 = .ok (.ifCond .eq 10, 3) := by decide +kernel
theorem dX10_multiply_9 : decode cX10_multiply 9 = .ok (.iload_n 3, 1) := by decide +kernel
theorem dX10_multiply_10 : decode cX10_multiply 10 = .ok (.invokestatic 204, 3) := by decide +kernel
theorem dX10_multiply_13 : decode cX10_multiply 13 = .ok (.ifCond .ne 5, 3) := by decide +kernel
theorem dX10_multiply_16 : decode cX10_multiply 16 = .ok (.iconst 0, 1) := by decide +kernel
theorem dX10_multiply_17 : decode cX10_multiply 17 = .ok (.ireturn, 1) := by decide +kernel
theorem dX10_multiply_18 : decode cX10_multiply 18 = .ok (.aload_n 0, 1) := by decide +kernel
theorem dX10_multiply_19 : decode cX10_multiply 19 = .ok (.getfield 62, 3) := by decide +kernel
theorem dX10_multiply_22 : decode cX10_multiply 22 = .ok (.aload_n 0, 1) := by decide +kernel
theorem dX10_multiply_23 : decode cX10_multiply 23 = .ok (.getfield 98, 3) := by decide +kernel
theorem dX10_multiply_26 : decode cX10_multiply 26 = .ok (.aload_n 0, 1) := by decide +kernel
theorem dX10_multiply_27 : decode cX10_multiply 27 = .ok (.getfield 12, 3) := by decide +kernel
theorem dX10_multiply_30 : decode cX10_multiply 30 = .ok (.getfield 210, 3) := by decide +kernel
theorem dX10_multiply_33 : decode cX10_multiply 33 = .ok (.iload_n 2, 1) := by decide +kernel
theorem dX10_multiply_34 : decode cX10_multiply 34 = .ok (.aaload, 1) := by decide +kernel
theorem dX10_multiply_35 : decode cX10_multiply 35 = .ok (.aload_n 0, 1) := by decide +kernel
theorem dX10_multiply_36 : decode cX10_multiply 36 = .ok (.getfield 12, 3) := by decide +kernel
theorem dX10_multiply_39 : decode cX10_multiply 39 = .ok (.getfield 210, 3) := by decide +kernel
theorem dX10_multiply_42 : decode cX10_multiply 42 = .ok (.iload_n 3, 1) := by decide +kernel
theorem dX10_multiply_43 : decode cX10_multiply 43 = .ok (.aaload, 1) := by decide +kernel
theorem dX10_multiply_44 : decode cX10_multiply 44 = .ok (.invokevirtual 217, 3) := by decide +kernel
theorem dX10_multiply_47 : decode cX10_multiply 47 = .ok (.aload_n 0, 1) := by decide +kernel
theorem dX10_multiply_48 : decode cX10_multiply 48 = .ok (.iload_n 1, 1) := by decide +kernel
theorem dX10_multiply_49 : decode cX10_multiply 49 = .ok (.invokevirtual 221, 3) := by decide +kernel
theorem dX10_multiply_52 : decode cX10_multiply 52 = .ok (.ireturn, 1) := by decide +kernel
theorem dX10_invert_0 : decode cX10_invert 0 = .ok (.aload_n 0, 1) := by decide +kernel
theorem dX10_invert_1 : decode cX10_invert 1 = .ok (.iload_n 1, 1) := by decide +kernel
theorem dX10_invert_2 : decode cX10_invert 2 = .ok (.iload_n 2, 1) := by decide +kernel
