theorem dX7_init_78 : decode cX7_init 78 = .ok (.iconst 0, 1) := by decide +kernel
theorem dX7_init_79 : decode cX7_init 79 = .ok (.putfield 47, 3) := by decide +kernel
theorem dX7_init_82 : decode cX7_init 82 = .ok (.aload_n 0, 1) := by decide +kernel
theorem dX7_init_83 : decode cX7_init 83 = .ok (.aload_n 1, 1) := by decide +kernel
theorem dX7_init_84 : decode cX7_init 84 = .ok (.putfield 50, 3) := by decide +kernel
theorem dX7_init_87 : decode cX7_init 87 = .ok (.iconst 0, 1) := by decide +kernel
theorem dX7_init_88 : decode cX7_init 88 = .ok (.istore_n 2, 1) := by decide +kernel
theorem dX7_init_89 : decode cX7_init 89 = .ok (.iload_n 2, 1) := by decide +kernel
theorem dX7_init_90 : decode cX7_init 90 = .ok (.bipush 6, 2) := by decide +kernel
theorem dX7_init_92 : decode cX7_init 92 = .ok (.if_icmp .ge 22, 3) := by decide +kernel
theorem dX7_init_95 : decode cX7_init 95 = .ok (.aload_n 0, 1) := by decide +kernel
theorem dX7_init_96 : decode cX7_init 96 = .ok (.getfield 23, 3) := by decide +kernel
theorem dX7_init_99 : decode cX7_init 99 = .ok (.iload_n 2, 1) := by decide +kernel
theorem dX7_init_100 : decode cX7_init 100 = .ok (.new 21, 3) := by decide +kernel
theorem dX7_init_103 : decode cX7_init 103 = .ok (.dup, 1) := by decide +kernel
theorem dX7_init_104 : decode cX7_init 104 = .ok (.invokespecial 54, 3) := by decide +kernel
theorem dX7_init_107 : decode cX7_init 107 = .ok (.aastore, 1) := by decide +kernel
theorem dX7_init_108 : decode cX7_init 108 = .ok (.iinc 2 1, 3) := by decide +kernel
theorem dX7_init_111 : decode cX7_init 111 = .ok (.goto (-22), 3) := by decide +kernel
theorem dX7_init_114 : decode cX7_init 114 = .ok (.return_, 1) := by decide +kernel
theorem dX7_findGaps_0 : decode cX7_findGaps 0 = .ok (.iconst 0, 1) := by decide +kernel
theorem dX7_findGaps_1 : decode cX7_findGaps 1 = .ok (.istore_n 3, 1) := by decide +kernel
theorem dX7_findGaps_2 : decode cX7_findGaps 2 = .ok (.iload_n 3, 1) := by decide +kernel
theorem dX7_findGaps_3 : decode cX7_findGaps 3 = .ok (.bipush 6, 2) := by decide +kernel
theorem dX7_findGaps_5 : decode cX7_findGaps 5 = .ok (.if_icmp .ge 34, 3) := by decide +kernel
theorem dX7_findGaps_8 : decode cX7_findGaps 8 = .ok (.aload_n 0, 1) := by decide +kernel
theorem dX7_findGaps_9 : decode cX7_findGaps 9 = .ok (.getfield 27, 3) := by decide +kernel
theorem dX7_findGaps_12 : decode cX7_findGaps 12 = .ok (.iload_n 3, 1) := by decide +kernel
theorem dX7_findGaps_13 : decode cX7_findGaps 13 = .ok (.aload_n 1, 1) := by decide +kernel
theorem dX7_findGaps_14 : decode cX7_findGaps 14 = .ok (.iload_n 3, 1) := by decide +kernel
theorem dX7_findGaps_15 : decode cX7_findGaps 15 = .ok (.laload, 1) := by decide +kernel
theorem dX7_findGaps_16 : decode cX7_findGaps 16 = .ok (.invokestatic 55, 3) := by decide +kernel
theorem dX7_findGaps_19 : decode cX7_findGaps 19 = .ok (.aload_n 0, 1) := by decide +kernel
theorem dX7_findGaps_20 : decode cX7_findGaps 20 = .ok (.getfield 27, 3) := by decide +kernel
theorem dX7_findGaps_23 : decode cX7_findGaps 23 = .ok (.bipush 6, 2) := by decide +kernel
theorem dX7_findGaps_25 : decode cX7_findGaps 25 = .ok (.iload_n 3, 1) := by decide +kernel
theorem dX7_findGaps_26 : decode cX7_findGaps 26 = .ok (.iadd, 1) := by decide +kernel
theorem dX7_findGaps_27 : decode cX7_findGaps 27 = .ok (.aload_n 2, 1) := by decide +kernel
theorem dX7_findGaps_28 : decode cX7_findGaps 28 = .ok (.iload_n 3, 1) := by decide +kernel
theorem dX7_findGaps_29 : decode cX7_findGaps 29 = .ok (.laload, 1) := by decide +kernel
theorem dX7_findGaps_30 : decode cX7_findGaps 30 = .ok (.invokestatic 55, 3) := by decide +kernel
theorem dX7_findGaps_33 : decode cX7_findGaps 33 = .ok (.iinc 3 1, 3) := by decide +kernel
theorem dX7_findGaps_36 : decode cX7_findGaps 36 = .ok (.goto (-34), 3) := by decide +kernel
theorem dX7_findGaps_39 : decode cX7_findGaps 39 = .ok (.iconst 0, 1) := by decide +kernel
theorem dX7_findGaps_40 : decode cX7_findGaps 40 = .ok (.istore_n 3, 1) := by decide +kernel
theorem dX7_findGaps_41 : decode cX7_findGaps 41 = .ok (.iload_n 3, 1) := by decide +kernel
theorem dX7_findGaps_42 : decode cX7_findGaps 42 = .ok (.bipush 6, 2) := by decide +kernel
theorem dX7_findGaps_44 : decode cX7_findGaps 44 = .ok (.if_icmp .ge 38, 3) := by decide +kernel
theorem dX7_findGaps_47 : decode cX7_findGaps 47 = .ok (.aload_n 0, 1) := by decide +kernel
theorem dX7_findGaps_48 : decode cX7_findGaps 48 = .ok (.getfield 23, 3) := by decide +kernel
theorem dX7_findGaps_51 : decode cX7_findGaps 51 = .ok (.iload_n 3, 1) := by decide +kernel
theorem dX7_findGaps_52 : decode cX7_findGaps 52 = .ok (.aaload, 1) := by decide +kernel
theorem dX7_findGaps_53 : decode cX7_findGaps 53 = .ok (.iconst 0, 1) := by decide +kernel
theorem dX7_findGaps_54 : decode cX7_findGaps 54 = .ok (.putfield 61, 3) := by decide +kernel
theorem dX7_findGaps_57 : decode cX7_findGaps 57 = .ok (.aload_n 0, 1) := by decide +kernel
theorem dX7_findGaps_58 : decode cX7_findGaps 58 = .ok (.aload_n 0, 1) := by decide +kernel
theorem dX7_findGaps_59 : decode cX7_findGaps 59 = .ok (.getfield 50, 3) := by decide +kernel
theorem dX7_findGaps_62 : decode cX7_findGaps 62 = .ok (.getfield 64, 3) := by decide +kernel
theorem dX7_findGaps_65 : decode cX7_findGaps 65 = .ok (.iload_n 3, 1) := by decide +kernel
theorem dX7_findGaps_66 : decode cX7_findGaps 66 = .ok (.aaload, 1) := by decide +kernel
theorem dX7_findGaps_67 : decode cX7_findGaps 67 = .ok (.aload_n 0, 1) := by decide +kernel
theorem dX7_findGaps_68 : decode cX7_findGaps 68 = .ok (.getfield 23, 3) := by decide +kernel
theorem dX7_findGaps_71 : decode cX7_findGaps 71 = .ok (.iload_n 3, 1) := by decide +kernel
theorem dX7_findGaps_72 : decode cX7_findGaps 72 = .ok (.aaload, 1) := by decide +kernel
theorem dX7_findGaps_73 : decode cX7_findGaps 73 = .ok (.invokevirtual 67, 3) := by decide +kernel
theorem dX7_findGaps_76 : decode cX7_findGaps 76 = .ok (.iinc 3 1, 3) := by decide +kernel
theorem dX7_findGaps_79 : decode cX7_findGaps 79 = .ok (.goto (-38), 3) := by decide +kernel
theorem dX7_findGaps_82 : decode cX7_findGaps 82 = .ok (.return_, 1) := by decide +kernel
theorem dX7_findGap_0 : decode cX7_findGap 0 = .ok (.iconst 0, 1) := by decide +kernel
theorem dX7_findGap_1 : decode cX7_findGap 1 = .ok (.istore_n 3, 1) := by decide +kernel
theorem dX7_findGap_2 : decode cX7_findGap 2 = .ok (.iload_n 3, 1) := by decide +kernel
theorem dX7_findGap_3 : decode cX7_findGap 3 = .ok (.aload_n 1, 1) := by decide +kernel
theorem dX7_findGap_4 : decode cX7_findGap 4 = .ok (.getfield 61, 3) := by decide +kernel
theorem dX7_findGap_7 : decode cX7_findGap 7 = .ok (.if_icmp .ge 86, 3) := by decide +kernel
theorem dX7_findGap_10 : decode cX7_findGap 10 = .ok (.aload_n 1, 1) := by decide +kernel
theorem dX7_findGap_11 : decode cX7_findGap 11 = .ok (.getfield 71, 3) := by decide +kernel
theorem dX7_findGap_14 : decode cX7_findGap 14 = .ok (.iload_n 3, 1) := by decide +kernel
theorem dX7_findGap_15 : decode cX7_findGap 15 = .ok (.iaload, 1) := by decide +kernel
theorem dX7_findGap_16 : decode cX7_findGap 16 = .ok (.ldc 75, 2) := by decide +kernel
theorem dX7_findGap_18 : decode cX7_findGap 18 = .ok (.iand, 1) := by decide +kernel
theorem dX7_findGap_19 : decode cX7_findGap 19 = .ok (.istore 4, 2) := by decide +kernel
theorem dX7_findGap_21 : decode cX7_findGap 21 = .ok (.aload_n 1, 1) := by decide +kernel
theorem dX7_findGap_22 : decode cX7_findGap 22 = .ok (.getfield 71, 3) := by decide +kernel
theorem dX7_findGap_25 : decode cX7_findGap 25 = .ok (.iload_n 3, 1) := by decide +kernel
theorem dX7_findGap_26 : decode cX7_findGap 26 = .ok (.iaload, 1) := by decide +kernel
theorem dX7_findGap_27 : decode cX7_findGap 27 = .ok (.sipush 4095, 3) := by decide +kernel
theorem dX7_findGap_30 : decode cX7_findGap 30 = .ok (.iand, 1) := by decide +kernel
theorem dX7_findGap_31 : decode cX7_findGap 31 = .ok (.istore 5, 2) := by decide +kernel
theorem dX7_findGap_33 : decode cX7_findGap 33 = .ok (.aload_n 2, 1) := by decide +kernel
theorem dX7_findGap_34 : decode cX7_findGap 34 = .ok (.iload 5, 2) := by decide +kernel
theorem dX7_findGap_36 : decode cX7_findGap 36 = .ok (.bipush 12, 2) := by decide +kernel
theorem dX7_findGap_38 : decode cX7_findGap 38 = .ok (.ishl, 1) := by decide +kernel
theorem dX7_findGap_39 : decode cX7_findGap 39 = .ok (.aload_n 1, 1) := by decide +kernel
theorem dX7_findGap_40 : decode cX7_findGap 40 = .ok (.getfield 76, 3) := by decide +kernel
theorem dX7_findGap_43 : decode cX7_findGap 43 = .ok (.iload_n 3, 1) := by decide +kernel
theorem dX7_findGap_44 : decode cX7_findGap 44 = .ok (.laload, 1) := by decide +kernel
theorem dX7_findGap_45 : decode cX7_findGap 45 = .ok (.iload 4, 2) := by decide +kernel
theorem dX7_findGap_47 : decode cX7_findGap 47 = .ok (.invokestatic 79, 3) := by decide +kernel
theorem dX7_findGap_50 : decode cX7_findGap 50 = .ok (.aload_n 0, 1) := by decide +kernel
theorem dX7_findGap_51 : decode cX7_findGap 51 = .ok (.getfield 27, 3) := by decide +kernel
theorem dX7_findGap_54 : decode cX7_findGap 54 = .ok (.invokestatic 83, 3) := by decide +kernel
theorem dX7_findGap_57 : decode cX7_findGap 57 = .ok (.lmul, 1) := by decide +kernel
theorem dX7_findGap_58 : decode cX7_findGap 58 = .ok (.invokevirtual 87, 3) := by decide +kernel
theorem dX7_findGap_61 : decode cX7_findGap 61 = .ok (.aload_n 2, 1) := by decide +kernel
theorem dX7_findGap_62 : decode cX7_findGap 62 = .ok (.iload 4, 2) := by decide +kernel
theorem dX7_findGap_64 : decode cX7_findGap 64 = .ok (.aload_n 1, 1) := by decide +kernel
theorem dX7_findGap_65 : decode cX7_findGap 65 = .ok (.getfield 76, 3) := by decide +kernel
theorem dX7_findGap_68 : decode cX7_findGap 68 = .ok (.iload_n 3, 1) := by decide +kernel
theorem dX7_findGap_69 : decode cX7_findGap 69 = .ok (.laload, 1) := by decide +kernel
theorem dX7_findGap_70 : decode cX7_findGap 70 = .ok (.lneg, 1) := by decide +kernel
theorem dX7_findGap_71 : decode cX7_findGap 71 = .ok (.iload 5, 2) := by decide +kernel
theorem dX7_findGap_73 : decode cX7_findGap 73 = .ok (.invokestatic 79, 3) := by decide +kernel
theorem dX7_findGap_76 : decode cX7_findGap 76 = .ok (.aload_n 0, 1) := by decide +kernel
theorem dX7_findGap_77 : decode cX7_findGap 77 = .ok (.getfield 27, 3) := by decide +kernel
theorem dX7_findGap_80 : decode cX7_findGap 80 = .ok (.invokestatic 83, 3) := by decide +kernel
theorem dX7_findGap_83 : decode cX7_findGap 83 = .ok (.lmul, 1) := by decide +kernel
theorem dX7_findGap_84 : decode cX7_findGap 84 = .ok (.invokevirtual 87, 3) := by decide +kernel
theorem dX7_findGap_87 : decode cX7_findGap 87 = .ok (.iinc 3 1, 3) := by decide +kernel
theorem dX7_findGap_90 : decode cX7_findGap 90 = .ok (.goto (-88), 3) := by decide +kernel
theorem dX7_findGap_93 : decode cX7_findGap 93 = .ok (.return_, 1) := by decide +kernel
theorem dX7_conjugator_0 : decode cX7_conjugator 0 = .ok (.aload_n 0, 1) := by decide +kernel
theorem dX7_conjugator_1 : decode cX7_conjugator 1 = .ok (.aload_n 2, 1) := by decide +kernel
theorem dX7_conjugator_2 : decode cX7_conjugator 2 = .ok (.aload_n 3, 1) := by decide +kernel
theorem dX7_conjugator_3 : decode cX7_conjugator 3 = .ok (.invokevirtual 91, 3) := by decide +kernel
theorem dX7_conjugator_6 : decode cX7_conjugator 6 = .ok (.aload_n 0, 1) := by decide +kernel
theorem dX7_conjugator_7 : decode cX7_conjugator 7 = .ok (.lconst 0, 1) := by decide +kernel
theorem dX7_conjugator_8 : decode cX7_conjugator 8 = .ok (.invokevirtual 95, 3) := by decide +kernel
theorem dX7_conjugator_11 : decode cX7_conjugator 11 = .ok (.iconst 0, 1) := by decide +kernel
theorem dX7_conjugator_12 : decode cX7_conjugator 12 = .ok (.istore 5, 2) := by decide +kernel
theorem dX7_conjugator_14 : decode cX7_conjugator 14 = .ok (.iconst 0, 1) := by decide +kernel
theorem dX7_conjugator_15 : decode cX7_conjugator 15 = .ok (.istore 6, 2) := by decide +kernel
theorem dX7_conjugator_17 : decode cX7_conjugator 17 = .ok (.iload 6, 2) := by decide +kernel
theorem dX7_conjugator_19 : decode cX7_conjugator 19 = .ok (.aload_n 0, 1) := by decide +kernel
theorem dX7_conjugator_20 : decode cX7_conjugator 20 = .ok (.getfield 50, 3) := by decide +kernel
theorem dX7_conjugator_23 : decode cX7_conjugator 23 = .ok (.getfield 99, 3) := by decide +kernel
theorem dX7_conjugator_26 : decode cX7_conjugator 26 = .ok (.getfield 103, 3) := by decide +kernel
theorem dX7_conjugator_29 : decode cX7_conjugator 29 = .ok (.if_icmp .ge 45, 3) := by decide +kernel
theorem dX7_conjugator_32 : decode cX7_conjugator 32 = .ok (.iload 5, 2) := by decide +kernel
theorem dX7_conjugator_34 : decode cX7_conjugator 34 = .ok (.aload_n 0, 1) := by decide +kernel
theorem dX7_conjugator_35 : decode cX7_conjugator 35 = .ok (.getfield 50, 3) := by decide +kernel
theorem dX7_conjugator_38 : decode cX7_conjugator 38 = .ok (.getfield 99, 3) := by decide +kernel
theorem dX7_conjugator_41 : decode cX7_conjugator 41 = .ok (.getfield 106, 3) := by decide +kernel
theorem dX7_conjugator_44 : decode cX7_conjugator 44 = .ok (.iload 6, 2) := by decide +kernel
theorem dX7_conjugator_46 : decode cX7_conjugator 46 = .ok (.iaload, 1) := by decide +kernel
theorem dX7_conjugator_47 : decode cX7_conjugator 47 = .ok (.aload_n 0, 1) := by decide +kernel
theorem dX7_conjugator_48 : decode cX7_conjugator 48 = .ok (.getfield 50, 3) := by decide +kernel
theorem dX7_conjugator_51 : decode cX7_conjugator 51 = .ok (.getfield 99, 3) := by decide +kernel
theorem dX7_conjugator_54 : decode cX7_conjugator 54 = .ok (.invokevirtual 109, 3) := by decide +kernel
theorem dX7_conjugator_57 : decode cX7_conjugator 57 = .ok (.if_icmp .ge 7, 3) := by decide +kernel
theorem dX7_conjugator_60 : decode cX7_conjugator 60 = .ok (.iconst 1, 1) := by decide +kernel
theorem dX7_conjugator_61 : decode cX7_conjugator 61 = .ok (.goto 4, 3) := by decide +kernel
theorem dX7_conjugator_64 : decode cX7_conjugator 64 = .ok (.iconst 0, 1) := by decide +kernel
theorem dX7_conjugator_65 : decode cX7_conjugator 65 = .ok (.iadd, 1) := by decide +kernel
theorem dX7_conjugator_66 : decode cX7_conjugator 66 = .ok (.istore 5, 2) := by decide +kernel
theorem dX7_conjugator_68 : decode cX7_conjugator 68 = .ok (.iinc 6 1, 3) := by decide +kernel
theorem dX7_conjugator_71 : decode cX7_conjugator 71 = .ok (.goto (-54), 3) := by decide +kernel
theorem dX7_conjugator_74 : decode cX7_conjugator 74 = .ok (.aload_n 0, 1) := by decide +kernel
theorem dX7_conjugator_75 : decode cX7_conjugator 75 = .ok (.iconst 0, 1) := by decide +kernel
theorem dX7_conjugator_76 : decode cX7_conjugator 76 = .ok (.iload 5, 2) := by decide +kernel
theorem dX7_conjugator_78 : decode cX7_conjugator 78 = .ok (.ifCond .ne 8, 3) := by decide +kernel
theorem dX7_conjugator_81 : decode cX7_conjugator 81 = .ok (.bipush 6, 2) := by decide +kernel
theorem dX7_conjugator_83 : decode cX7_conjugator 83 = .ok (.goto 4, 3) := by decide +kernel
theorem dX7_conjugator_86 : decode cX7_conjugator 86 = .ok (.iconst 1, 1) := by decide +kernel
theorem dX7_conjugator_87 : decode cX7_conjugator 87 = .ok (.invokevirtual 113, 3) := by decide +kernel
theorem dX7_conjugator_90 : decode cX7_conjugator 90 = .ok (.ifCond .eq 14, 3) := by decide +kernel
theorem dX7_conjugator_93 : decode cX7_conjugator 93 = .ok (.aload_n 0, 1) := by decide +kernel
theorem dX7_conjugator_94 : decode cX7_conjugator 94 = .ok (.iload 4, 2) := by decide +kernel
theorem dX7_conjugator_96 : decode cX7_conjugator 96 = .ok (.iload 5, 2) := by decide +kernel
theorem dX7_conjugator_98 : decode cX7_conjugator 98 = .ok (.invokevirtual 117, 3) := by decide +kernel
theorem dX7_conjugator_101 : decode cX7_conjugator 101 = .ok (.ifCond .ne 5, 3) := by decide +kernel
theorem dX7_conjugator_104 : decode cX7_conjugator 104 = .ok (.iconst 0, 1) := by decide +kernel
theorem dX7_conjugator_105 : decode cX7_conjugator 105 = .ok (.ireturn, 1) := by decide +kernel
theorem dX7_conjugator_106 : decode cX7_conjugator 106 = .ok (.aload_n 0, 1) := by decide +kernel
theorem dX7_conjugator_107 : decode cX7_conjugator 107 = .ok (.getfield 37, 3) := by decide +kernel
theorem dX7_conjugator_110 : decode cX7_conjugator 110 = .ok (.aload_n 1, 1) := by decide +kernel
theorem dX7_conjugator_111 : decode cX7_conjugator 111 = .ok (.invokestatic 120, 3) := by decide +kernel
theorem dX7_conjugator_114 : decode cX7_conjugator 114 = .ok (.iconst 1, 1) := by decide +kernel
theorem dX7_conjugator_115 : decode cX7_conjugator 115 = .ok (.ireturn, 1) := by decide +kernel
theorem dX7_findWithin_0 : decode cX7_findWithin 0 = .ok (.iconst 0, 1) := by decide +kernel
theorem dX7_findWithin_1 : decode cX7_findWithin 1 = .ok (.istore_n 3, 1) := by decide +kernel
theorem dX7_findWithin_2 : decode cX7_findWithin 2 = .ok (.aload_n 0, 1) := by decide +kernel
theorem dX7_findWithin_3 : decode cX7_findWithin 3 = .ok (.iconst 0, 1) := by decide +kernel
theorem dX7_findWithin_4 : decode cX7_findWithin 4 = .ok (.iload_n 2, 1) := by decide +kernel
theorem dX7_findWithin_5 : decode cX7_findWithin 5 = .ok (.ifCond .ne 7, 3) := by decide +kernel
theorem dX7_findWithin_8 : decode cX7_findWithin 8 = .ok (.lconst 0, 1) := by decide +kernel
theorem dX7_findWithin_9 : decode cX7_findWithin 9 = .ok (.goto 6, 3) := by decide +kernel
theorem dX7_findWithin_12 : decode cX7_findWithin 12 = .ok (.iload_n 1, 1) := by decide +kernel
theorem dX7_findWithin_13 : decode cX7_findWithin 13 = .ok (.ineg, 1) := by decide +kernel
theorem dX7_findWithin_14 : decode cX7_findWithin 14 = .ok (.i2l, 1) := by decide +kernel
theorem dX7_findWithin_15 : decode cX7_findWithin 15 = .ok (.invokevirtual 125, 3) := by decide +kernel
theorem dX7_findWithin_18 : decode cX7_findWithin 18 = .ok (.iconst 0, 1) := by decide +kernel
theorem dX7_findWithin_19 : decode cX7_findWithin 19 = .ok (.istore 4, 2) := by decide +kernel
theorem dX7_findWithin_21 : decode cX7_findWithin 21 = .ok (.iload 4, 2) := by decide +kernel
theorem dX7_findWithin_23 : decode cX7_findWithin 23 = .ok (.ldc 128, 2) := by decide +kernel
theorem dX7_findWithin_25 : decode cX7_findWithin 25 = .ok (.if_icmp .ge 108, 3) := by decide +kernel
theorem dX7_findWithin_28 : decode cX7_findWithin 28 = .ok (.iload_n 3, 1) := by decide +kernel
theorem dX7_findWithin_29 : decode cX7_findWithin 29 = .ok (.iload_n 2, 1) := by decide +kernel
theorem dX7_findWithin_30 : decode cX7_findWithin 30 = .ok (.if_icmp .ge 103, 3) := by decide +kernel
theorem dX7_findWithin_33 : decode cX7_findWithin 33 = .ok (.aload_n 0, 1) := by decide +kernel
theorem dX7_findWithin_34 : decode cX7_findWithin 34 = .ok (.getfield 37, 3) := by decide +kernel
theorem dX7_findWithin_37 : decode cX7_findWithin 37 = .ok (.iload_n 3, 1) := by decide +kernel
theorem dX7_findWithin_38 : decode cX7_findWithin 38 = .ok (.laload, 1) := by decide +kernel
theorem dX7_findWithin_39 : decode cX7_findWithin 39 = .ok (.iload_n 1, 1) := by decide +kernel
theorem dX7_findWithin_40 : decode cX7_findWithin 40 = .ok (.i2l, 1) := by decide +kernel
theorem dX7_findWithin_41 : decode cX7_findWithin 41 = .ok (.lcmp, 1) := by decide +kernel
theorem dX7_findWithin_42 : decode cX7_findWithin 42 = .ok (.ifCond .le 28, 3) := by decide +kernel
theorem dX7_findWithin_45 : decode cX7_findWithin 45 = .ok (.iinc 3 (-1), 3) := by decide +kernel
theorem dX7_findWithin_48 : decode cX7_findWithin 48 = .ok (.iload_n 3, 1) := by decide +kernel
theorem dX7_findWithin_49 : decode cX7_findWithin 49 = .ok (.ifCond .ge 5, 3) := by decide +kernel
theorem dX7_findWithin_52 : decode cX7_findWithin 52 = .ok (.iconst 0, 1) := by decide +kernel
theorem dX7_findWithin_53 : decode cX7_findWithin 53 = .ok (.ireturn, 1) := by decide +kernel
theorem dX7_findWithin_54 : decode cX7_findWithin 54 = .ok (.aload_n 0, 1) := by decide +kernel
theorem dX7_findWithin_55 : decode cX7_findWithin 55 = .ok (.iload_n 3, 1) := by decide +kernel
theorem dX7_findWithin_56 : decode cX7_findWithin 56 = .ok (.aload_n 0, 1) := by decide +kernel
theorem dX7_findWithin_57 : decode cX7_findWithin 57 = .ok (.getfield 37, 3) := by decide +kernel
theorem dX7_findWithin_60 : decode cX7_findWithin 60 = .ok (.iload_n 3, 1) := by decide +kernel
theorem dX7_findWithin_61 : decode cX7_findWithin 61 = .ok (.laload, 1) := by decide +kernel
theorem dX7_findWithin_62 : decode cX7_findWithin 62 = .ok (.lconst 1, 1) := by decide +kernel
theorem dX7_findWithin_63 : decode cX7_findWithin 63 = .ok (.ladd, 1) := by decide +kernel
theorem dX7_findWithin_64 : decode cX7_findWithin 64 = .ok (.invokevirtual 125, 3) := by decide +kernel
theorem dX7_findWithin_67 : decode cX7_findWithin 67 = .ok (.goto 60, 3) := by decide +kernel
theorem dX7_findWithin_70 : decode cX7_findWithin 70 = .ok (.aload_n 0, 1) := by decide +kernel
theorem dX7_findWithin_71 : decode cX7_findWithin 71 = .ok (.iload_n 3, 1) := by decide +kernel
theorem dX7_findWithin_72 : decode cX7_findWithin 72 = .ok (.iconst 1, 1) := by decide +kernel
theorem dX7_findWithin_73 : decode cX7_findWithin 73 = .ok (.iadd, 1) := by decide +kernel
theorem dX7_findWithin_74 : decode cX7_findWithin 74 = .ok (.iload_n 3, 1) := by decide +kernel
theorem dX7_findWithin_75 : decode cX7_findWithin 75 = .ok (.iconst 1, 1) := by decide +kernel
theorem dX7_findWithin_76 : decode cX7_findWithin 76 = .ok (.iadd, 1) := by decide +kernel
theorem dX7_findWithin_77 : decode cX7_findWithin 77 = .ok (.iload_n 2, 1) := by decide +kernel
theorem dX7_findWithin_78 : decode cX7_findWithin 78 = .ok (.if_icmp .ne 8, 3) := by decide +kernel
theorem dX7_findWithin_81 : decode cX7_findWithin 81 = .ok (.bipush 6, 2) := by decide +kernel
theorem dX7_findWithin_83 : decode cX7_findWithin 83 = .ok (.goto 6, 3) := by decide +kernel
theorem dX7_findWithin_86 : decode cX7_findWithin 86 = .ok (.iload_n 3, 1) := by decide +kernel
theorem dX7_findWithin_87 : decode cX7_findWithin 87 = .ok (.iconst 2, 1) := by decide +kernel
theorem dX7_findWithin_88 : decode cX7_findWithin 88 = .ok (.iadd, 1) := by decide +kernel
theorem dX7_findWithin_89 : decode cX7_findWithin 89 = .ok (.invokevirtual 113, 3) := by decide +kernel
theorem dX7_findWithin_92 : decode cX7_findWithin 92 = .ok (.ifCond .ne 19, 3) := by decide +kernel
theorem dX7_findWithin_95 : decode cX7_findWithin 95 = .ok (.aload_n 0, 1) := by decide +kernel
theorem dX7_findWithin_96 : decode cX7_findWithin 96 = .ok (.iload_n 3, 1) := by decide +kernel
theorem dX7_findWithin_97 : decode cX7_findWithin 97 = .ok (.aload_n 0, 1) := by decide +kernel
theorem dX7_findWithin_98 : decode cX7_findWithin 98 = .ok (.getfield 37, 3) := by decide +kernel
theorem dX7_findWithin_101 : decode cX7_findWithin 101 = .ok (.iload_n 3, 1) := by decide +kernel
theorem dX7_findWithin_102 : decode cX7_findWithin 102 = .ok (.laload, 1) := by decide +kernel
theorem dX7_findWithin_103 : decode cX7_findWithin 103 = .ok (.lconst 1, 1) := by decide +kernel
theorem dX7_findWithin_104 : decode cX7_findWithin 104 = .ok (.ladd, 1) := by decide +kernel
theorem dX7_findWithin_105 : decode cX7_findWithin 105 = .ok (.invokevirtual 125, 3) := by decide +kernel
theorem dX7_findWithin_108 : decode cX7_findWithin 108 = .ok (.goto 19, 3) := by decide +kernel
theorem dX7_findWithin_111 : decode cX7_findWithin 111 = .ok (.iinc 3 1, 3) := by decide +kernel
theorem dX7_findWithin_114 : decode cX7_findWithin 114 = .ok (.iload_n 3, 1) := by decide +kernel
theorem dX7_findWithin_115 : decode cX7_findWithin 115 = .ok (.iload_n 2, 1) := by decide +kernel
theorem dX7_findWithin_116 : decode cX7_findWithin 116 = .ok (.if_icmp .ge 11, 3) := by decide +kernel
theorem dX7_findWithin_119 : decode cX7_findWithin 119 = .ok (.aload_n 0, 1) := by decide +kernel
theorem dX7_findWithin_120 : decode cX7_findWithin 120 = .ok (.iload_n 3, 1) := by decide +kernel
theorem dX7_findWithin_121 : decode cX7_findWithin 121 = .ok (.iload_n 1, 1) := by decide +kernel
theorem dX7_findWithin_122 : decode cX7_findWithin 122 = .ok (.ineg, 1) := by decide +kernel
theorem dX7_findWithin_123 : decode cX7_findWithin 123 = .ok (.i2l, 1) := by decide +kernel
theorem dX7_findWithin_124 : decode cX7_findWithin 124 = .ok (.invokevirtual 125, 3) := by decide +kernel
theorem dX7_findWithin_127 : decode cX7_findWithin 127 = .ok (.iinc 4 1, 3) := by decide +kernel
theorem dX7_findWithin_130 : decode cX7_findWithin 130 = .ok (.goto (-109), 3) := by decide +kernel
theorem dX7_findWithin_133 : decode cX7_findWithin 133 = .ok (.iload_n 3, 1) := by decide +kernel
theorem dX7_findWithin_134 : decode cX7_findWithin 134 = .ok (.iload_n 2, 1) := by decide +kernel
theorem dX7_findWithin_135 : decode cX7_findWithin 135 = .ok (.if_icmp .lt 7, 3) := by decide +kernel
theorem dX7_findWithin_138 : decode cX7_findWithin 138 = .ok (.iconst 1, 1) := by decide +kernel
theorem dX7_findWithin_139 : decode cX7_findWithin 139 = .ok (.goto 4, 3) := by decide +kernel
theorem dX7_findWithin_142 : decode cX7_findWithin 142 = .ok (.iconst 0, 1) := by decide +kernel
theorem dX7_findWithin_143 : decode cX7_findWithin 143 = .ok (.ireturn, 1) := by decide +kernel
theorem dX7_areClosed_0 : decode cX7_areClosed 0 = .ok (.iload_n 1, 1) := by decide +kernel
theorem dX7_areClosed_1 : decode cX7_areClosed 1 = .ok (.istore_n 3, 1) := by decide +kernel
theorem dX7_areClosed_2 : decode cX7_areClosed 2 = .ok (.iload_n 3, 1) := by decide +kernel
theorem dX7_areClosed_3 : decode cX7_areClosed 3 = .ok (.iload_n 2, 1) := by decide +kernel
theorem dX7_areClosed_4 : decode cX7_areClosed 4 = .ok (.if_icmp .ge 35, 3) := by decide +kernel
theorem dX7_areClosed_7 : decode cX7_areClosed 7 = .ok (.iload_n 3, 1) := by decide +kernel
theorem dX7_areClosed_8 : decode cX7_areClosed 8 = .ok (.bipush 6, 2) := by decide +kernel
theorem dX7_areClosed_10 : decode cX7_areClosed 10 = .ok (.if_icmp .ge 29, 3) := by decide +kernel
theorem dX7_areClosed_13 : decode cX7_areClosed 13 = .ok (.aload_n 0, 1) := by decide +kernel
theorem dX7_areClosed_14 : decode cX7_areClosed 14 = .ok (.getfield 23, 3) := by decide +kernel
theorem dX7_areClosed_17 : decode cX7_areClosed 17 = .ok (.iload_n 3, 1) := by decide +kernel
theorem dX7_areClosed_18 : decode cX7_areClosed 18 = .ok (.aaload, 1) := by decide +kernel
theorem dX7_areClosed_19 : decode cX7_areClosed 19 = .ok (.aload_n 0, 1) := by decide +kernel
theorem dX7_areClosed_20 : decode cX7_areClosed 20 = .ok (.getfield 27, 3) := by decide +kernel
theorem dX7_areClosed_23 : decode cX7_areClosed 23 = .ok (.invokevirtual 129, 3) := by decide +kernel
theorem dX7_areClosed_26 : decode cX7_areClosed 26 = .ok (.lconst 0, 1) := by decide +kernel
theorem dX7_areClosed_27 : decode cX7_areClosed 27 = .ok (.lcmp, 1) := by decide +kernel
theorem dX7_areClosed_28 : decode cX7_areClosed 28 = .ok (.ifCond .eq 5, 3) := by decide +kernel
theorem dX7_areClosed_31 : decode cX7_areClosed 31 = .ok (.iconst 0, 1) := by decide +kernel
theorem dX7_areClosed_32 : decode cX7_areClosed 32 = .ok (.ireturn, 1) := by decide +kernel
theorem dX7_areClosed_33 : decode cX7_areClosed 33 = .ok (.iinc 3 1, 3) := by decide +kernel
theorem dX7_areClosed_36 : decode cX7_areClosed 36 = .ok (.goto (-34), 3) := by decide +kernel
theorem dX7_areClosed_39 : decode cX7_areClosed 39 = .ok (.iconst 1, 1) := by decide +kernel
theorem dX7_areClosed_40 : decode cX7_areClosed 40 = .ok (.ireturn, 1) := by decide +kernel
theorem dX7_setU_0 : decode cX7_setU 0 = .ok (.iload_n 1, 1) := by decide +kernel
theorem dX7_setU_1 : decode cX7_setU 1 = .ok (.ifCond .lt 25, 3) := by decide +kernel
theorem dX7_setU_4 : decode cX7_setU 4 = .ok (.iload_n 1, 1) := by decide +kernel
theorem dX7_setU_5 : decode cX7_setU 5 = .ok (.bipush 6, 2) := by decide +kernel
theorem dX7_setU_7 : decode cX7_setU 7 = .ok (.if_icmp .ge 19, 3) := by decide +kernel
theorem dX7_setU_10 : decode cX7_setU 10 = .ok (.aload_n 0, 1) := by decide +kernel
theorem dX7_setU_11 : decode cX7_setU 11 = .ok (.getfield 37, 3) := by decide +kernel
theorem dX7_setU_14 : decode cX7_setU 14 = .ok (.iload_n 1, 1) := by decide +kernel
theorem dX7_setU_15 : decode cX7_setU 15 = .ok (.lload_n 2, 1) := by decide +kernel
theorem dX7_setU_16 : decode cX7_setU 16 = .ok (.lastore, 1) := by decide +kernel
theorem dX7_setU_17 : decode cX7_setU 17 = .ok (.aload_n 0, 1) := by decide +kernel
theorem dX7_setU_18 : decode cX7_setU 18 = .ok (.getfield 27, 3) := by decide +kernel
theorem dX7_setU_21 : decode cX7_setU 21 = .ok (.iload_n 1, 1) := by decide +kernel
theorem dX7_setU_22 : decode cX7_setU 22 = .ok (.lload_n 2, 1) := by decide +kernel
theorem dX7_setU_23 : decode cX7_setU 23 = .ok (.invokestatic 55, 3) := by decide +kernel
theorem dX7_setU_26 : decode cX7_setU 26 = .ok (.return_, 1) := by decide +kernel
theorem dX7_putU_0 : decode cX7_putU 0 = .ok (.iconst 0, 1) := by decide +kernel
theorem dX7_putU_1 : decode cX7_putU 1 = .ok (.istore_n 3, 1) := by decide +kernel
theorem dX7_putU_2 : decode cX7_putU 2 = .ok (.iload_n 3, 1) := by decide +kernel
theorem dX7_putU_3 : decode cX7_putU 3 = .ok (.bipush 6, 2) := by decide +kernel
theorem dX7_putU_5 : decode cX7_putU 5 = .ok (.if_icmp .ge 15, 3) := by decide +kernel
theorem dX7_putU_8 : decode cX7_putU 8 = .ok (.aload_n 0, 1) := by decide +kernel
theorem dX7_putU_9 : decode cX7_putU 9 = .ok (.iload_n 3, 1) := by decide +kernel
theorem dX7_putU_10 : decode cX7_putU 10 = .ok (.lload_n 1, 1) := by decide +kernel
theorem dX7_putU_11 : decode cX7_putU 11 = .ok (.invokevirtual 125, 3) := by decide +kernel
theorem dX7_putU_14 : decode cX7_putU 14 = .ok (.iinc 3 1, 3) := by decide +kernel
theorem dX7_putU_17 : decode cX7_putU 17 = .ok (.goto (-15), 3) := by decide +kernel
theorem dX7_putU_20 : decode cX7_putU 20 = .ok (.return_, 1) := by decide +kernel
theorem dX7_areConjugates_0 : decode cX7_areConjugates 0 = .ok (.aload_n 0, 1) := by decide +kernel
theorem dX7_areConjugates_1 : decode cX7_areConjugates 1 = .ok (.aload_n 0, 1) := by decide +kernel
theorem dX7_areConjugates_2 : decode cX7_areConjugates 2 = .ok (.getfield 50, 3) := by decide +kernel
theorem dX7_areConjugates_5 : decode cX7_areConjugates 5 = .ok (.getfield 99, 3) := by decide +kernel
theorem dX7_areConjugates_8 : decode cX7_areConjugates 8 = .ok (.iconst 1, 1) := by decide +kernel
theorem dX7_areConjugates_9 : decode cX7_areConjugates 9 = .ok (.invokevirtual 133, 3) := by decide +kernel
theorem dX7_areConjugates_12 : decode cX7_areConjugates 12 = .ok (.putfield 40, 3) := by decide +kernel
theorem dX7_areConjugates_15 : decode cX7_areConjugates 15 = .ok (.aload_n 0, 1) := by decide +kernel
theorem dX7_areConjugates_16 : decode cX7_areConjugates 16 = .ok (.aload_n 0, 1) := by decide +kernel
theorem dX7_areConjugates_17 : decode cX7_areConjugates 17 = .ok (.getfield 50, 3) := by decide +kernel
theorem dX7_areConjugates_20 : decode cX7_areConjugates 20 = .ok (.getfield 99, 3) := by decide +kernel
theorem dX7_areConjugates_23 : decode cX7_areConjugates 23 = .ok (.iconst 2, 1) := by decide +kernel
theorem dX7_areConjugates_24 : decode cX7_areConjugates 24 = .ok (.invokevirtual 133, 3) := by decide +kernel
theorem dX7_areConjugates_27 : decode cX7_areConjugates 27 = .ok (.putfield 44, 3) := by decide +kernel
theorem dX7_areConjugates_30 : decode cX7_areConjugates 30 = .ok (.aload_n 0, 1) := by decide +kernel
theorem dX7_areConjugates_31 : decode cX7_areConjugates 31 = .ok (.aload_n 0, 1) := by decide +kernel
theorem dX7_areConjugates_32 : decode cX7_areConjugates 32 = .ok (.getfield 50, 3) := by decide +kernel
theorem dX7_areConjugates_35 : decode cX7_areConjugates 35 = .ok (.getfield 99, 3) := by decide +kernel
theorem dX7_areConjugates_38 : decode cX7_areConjugates 38 = .ok (.iconst 3, 1) := by decide +kernel
theorem dX7_areConjugates_39 : decode cX7_areConjugates 39 = .ok (.invokevirtual 133, 3) := by decide +kernel
theorem dX7_areConjugates_42 : decode cX7_areConjugates 42 = .ok (.putfield 47, 3) := by decide +kernel
theorem dX7_areConjugates_45 : decode cX7_areConjugates 45 = .ok (.aload_n 0, 1) := by decide +kernel
theorem dX7_areConjugates_46 : decode cX7_areConjugates 46 = .ok (.aload_n 1, 1) := by decide +kernel
theorem dX7_areConjugates_47 : decode cX7_areConjugates 47 = .ok (.aload_n 2, 1) := by decide +kernel
theorem dX7_areConjugates_48 : decode cX7_areConjugates 48 = .ok (.invokevirtual 91, 3) := by decide +kernel
theorem dX7_areConjugates_51 : decode cX7_areConjugates 51 = .ok (.aload_n 0, 1) := by decide +kernel
theorem dX7_areConjugates_52 : decode cX7_areConjugates 52 = .ok (.lconst 0, 1) := by decide +kernel
theorem dX7_areConjugates_53 : decode cX7_areConjugates 53 = .ok (.invokevirtual 95, 3) := by decide +kernel
theorem dX7_areConjugates_56 : decode cX7_areConjugates 56 = .ok (.aload_n 0, 1) := by decide +kernel
theorem dX7_areConjugates_57 : decode cX7_areConjugates 57 = .ok (.iconst 0, 1) := by decide +kernel
theorem dX7_areConjugates_58 : decode cX7_areConjugates 58 = .ok (.aload_n 0, 1) := by decide +kernel
theorem dX7_areConjugates_59 : decode cX7_areConjugates 59 = .ok (.getfield 40, 3) := by decide +kernel
theorem dX7_areConjugates_62 : decode cX7_areConjugates 62 = .ok (.invokevirtual 113, 3) := by decide +kernel
theorem dX7_areConjugates_65 : decode cX7_areConjugates 65 = .ok (.ifCond .ne 5, 3) := by decide +kernel
theorem dX7_areConjugates_68 : decode cX7_areConjugates 68 = .ok (.iconst 0, 1) := by decide +kernel
theorem dX7_areConjugates_69 : decode cX7_areConjugates 69 = .ok (.ireturn, 1) := by decide +kernel
theorem dX7_areConjugates_70 : decode cX7_areConjugates 70 = .ok (.aload_n 0, 1) := by decide +kernel
theorem dX7_areConjugates_71 : decode cX7_areConjugates 71 = .ok (.invokevirtual 136, 3) := by decide +kernel
theorem dX7_areConjugates_74 : decode cX7_areConjugates 74 = .ok (.aload_n 0, 1) := by decide +kernel
theorem dX7_areConjugates_75 : decode cX7_areConjugates 75 = .ok (.invokevirtual 139, 3) := by decide +kernel
theorem dX7_areConjugates_78 : decode cX7_areConjugates 78 = .ok (.ifCond .ne 5, 3) := by decide +kernel
theorem dX7_areConjugates_81 : decode cX7_areConjugates 81 = .ok (.iconst 0, 1) := by decide +kernel
theorem dX7_areConjugates_82 : decode cX7_areConjugates 82 = .ok (.ireturn, 1) := by decide +kernel
theorem dX7_areConjugates_83 : decode cX7_areConjugates 83 = .ok (.aload_n 0, 1) := by decide +kernel
theorem dX7_areConjugates_84 : decode cX7_areConjugates 84 = .ok (.aload_n 0, 1) := by decide +kernel
theorem dX7_areConjugates_85 : decode cX7_areConjugates 85 = .ok (.getfield 40, 3) := by decide +kernel
theorem dX7_areConjugates_88 : decode cX7_areConjugates 88 = .ok (.aload_n 0, 1) := by decide +kernel
theorem dX7_areConjugates_89 : decode cX7_areConjugates 89 = .ok (.getfield 44, 3) := by decide +kernel
theorem dX7_areConjugates_92 : decode cX7_areConjugates 92 = .ok (.iadd, 1) := by decide +kernel
theorem dX7_areConjugates_93 : decode cX7_areConjugates 93 = .ok (.aload_n 0, 1) := by decide +kernel
theorem dX7_areConjugates_94 : decode cX7_areConjugates 94 = .ok (.getfield 47, 3) := by decide +kernel
theorem dX7_areConjugates_97 : decode cX7_areConjugates 97 = .ok (.aload_n 0, 1) := by decide +kernel
theorem dX7_areConjugates_98 : decode cX7_areConjugates 98 = .ok (.getfield 34, 3) := by decide +kernel
theorem dX7_areConjugates_101 : decode cX7_areConjugates 101 = .ok (.invokevirtual 143, 3) := by decide +kernel
theorem dX7_areConjugates_104 : decode cX7_areConjugates 104 = .ok (.aload_n 0, 1) := by decide +kernel
theorem dX7_areConjugates_105 : decode cX7_areConjugates 105 = .ok (.aload_n 2, 1) := by decide +kernel
theorem dX7_areConjugates_106 : decode cX7_areConjugates 106 = .ok (.aload_n 2, 1) := by decide +kernel
theorem dX7_areConjugates_107 : decode cX7_areConjugates 107 = .ok (.invokevirtual 91, 3) := by decide +kernel
theorem dX7_areConjugates_110 : decode cX7_areConjugates 110 = .ok (.aload_n 0, 1) := by decide +kernel
theorem dX7_areConjugates_111 : decode cX7_areConjugates 111 = .ok (.invokevirtual 147, 3) := by decide +kernel
theorem dX7_areConjugates_114 : decode cX7_areConjugates 114 = .ok (.aload_n 0, 1) := by decide +kernel
theorem dX7_areConjugates_115 : decode cX7_areConjugates 115 = .ok (.getfield 18, 3) := by decide +kernel
theorem dX7_areConjugates_118 : decode cX7_areConjugates 118 = .ok (.aload_n 0, 1) := by decide +kernel
theorem dX7_areConjugates_119 : decode cX7_areConjugates 119 = .ok (.getfield 34, 3) := by decide +kernel
theorem dX7_areConjugates_122 : decode cX7_areConjugates 122 = .ok (.invokevirtual 150, 3) := by decide +kernel
theorem dX7_areConjugates_125 : decode cX7_areConjugates 125 = .ok (.ireturn, 1) := by decide +kernel
theorem dX7_findTurns_0 : decode cX7_findTurns 0 = .ok (.aload_n 0, 1) := by decide +kernel
theorem dX7_findTurns_1 : decode cX7_findTurns 1 = .ok (.getfield 12, 3) := by decide +kernel
theorem dX7_findTurns_4 : decode cX7_findTurns 4 = .ok (.aload_n 0, 1) := by decide +kernel
theorem dX7_findTurns_5 : decode cX7_findTurns 5 = .ok (.getfield 44, 3) := by decide +kernel
theorem dX7_findTurns_8 : decode cX7_findTurns 8 = .ok (.aload_n 0, 1) := by decide +kernel
theorem dX7_findTurns_9 : decode cX7_findTurns 9 = .ok (.getfield 40, 3) := by decide +kernel
theorem dX7_findTurns_12 : decode cX7_findTurns 12 = .ok (.iadd, 1) := by decide +kernel
theorem dX7_findTurns_13 : decode cX7_findTurns 13 = .ok (.invokevirtual 154, 3) := by decide +kernel
theorem dX7_findTurns_16 : decode cX7_findTurns 16 = .ok (.iconst 0, 1) := by decide +kernel
theorem dX7_findTurns_17 : decode cX7_findTurns 17 = .ok (.istore_n 1, 1) := by decide +kernel
theorem dX7_findTurns_18 : decode cX7_findTurns 18 = .ok (.iload_n 1, 1) := by decide +kernel
theorem dX7_findTurns_19 : decode cX7_findTurns 19 = .ok (.aload_n 0, 1) := by decide +kernel
theorem dX7_findTurns_20 : decode cX7_findTurns 20 = .ok (.getfield 40, 3) := by decide +kernel
theorem dX7_findTurns_23 : decode cX7_findTurns 23 = .ok (.if_icmp .ge 117, 3) := by decide +kernel
theorem dX7_findTurns_26 : decode cX7_findTurns 26 = .ok (.aload_n 0, 1) := by decide +kernel
theorem dX7_findTurns_27 : decode cX7_findTurns 27 = .ok (.lconst 0, 1) := by decide +kernel
theorem dX7_findTurns_28 : decode cX7_findTurns 28 = .ok (.invokevirtual 95, 3) := by decide +kernel
theorem dX7_findTurns_31 : decode cX7_findTurns 31 = .ok (.aload_n 0, 1) := by decide +kernel
theorem dX7_findTurns_32 : decode cX7_findTurns 32 = .ok (.aload_n 0, 1) := by decide +kernel
theorem dX7_findTurns_33 : decode cX7_findTurns 33 = .ok (.getfield 40, 3) := by decide +kernel
theorem dX7_findTurns_36 : decode cX7_findTurns 36 = .ok (.aload_n 0, 1) := by decide +kernel
theorem dX7_findTurns_37 : decode cX7_findTurns 37 = .ok (.getfield 44, 3) := by decide +kernel
theorem dX7_findTurns_40 : decode cX7_findTurns 40 = .ok (.aload_n 0, 1) := by decide +kernel
theorem dX7_findTurns_41 : decode cX7_findTurns 41 = .ok (.getfield 34, 3) := by decide +kernel
theorem dX7_findTurns_44 : decode cX7_findTurns 44 = .ok (.invokevirtual 143, 3) := by decide +kernel
theorem dX7_findTurns_47 : decode cX7_findTurns 47 = .ok (.aload_n 0, 1) := by decide +kernel
theorem dX7_findTurns_48 : decode cX7_findTurns 48 = .ok (.iload_n 1, 1) := by decide +kernel
theorem dX7_findTurns_49 : decode cX7_findTurns 49 = .ok (.lconst 1, 1) := by decide +kernel
theorem dX7_findTurns_50 : decode cX7_findTurns 50 = .ok (.invokevirtual 125, 3) := by decide +kernel
theorem dX7_findTurns_53 : decode cX7_findTurns 53 = .ok (.aload_n 0, 1) := by decide +kernel
theorem dX7_findTurns_54 : decode cX7_findTurns 54 = .ok (.aload_n 0, 1) := by decide +kernel
theorem dX7_findTurns_55 : decode cX7_findTurns 55 = .ok (.getfield 40, 3) := by decide +kernel
theorem dX7_findTurns_58 : decode cX7_findTurns 58 = .ok (.aload_n 0, 1) := by decide +kernel
theorem dX7_findTurns_59 : decode cX7_findTurns 59 = .ok (.getfield 44, 3) := by decide +kernel
theorem dX7_findTurns_62 : decode cX7_findTurns 62 = .ok (.aload_n 0, 1) := by decide +kernel
theorem dX7_findTurns_63 : decode cX7_findTurns 63 = .ok (.getfield 31, 3) := by decide +kernel
theorem dX7_findTurns_66 : decode cX7_findTurns 66 = .ok (.invokevirtual 143, 3) := by decide +kernel
theorem dX7_findTurns_69 : decode cX7_findTurns 69 = .ok (.iconst 0, 1) := by decide +kernel
theorem dX7_findTurns_70 : decode cX7_findTurns 70 = .ok (.istore_n 2, 1) := by decide +kernel
theorem dX7_findTurns_71 : decode cX7_findTurns 71 = .ok (.iload_n 2, 1) := by decide +kernel
theorem dX7_findTurns_72 : decode cX7_findTurns 72 = .ok (.aload_n 0, 1) := by decide +kernel
theorem dX7_findTurns_73 : decode cX7_findTurns 73 = .ok (.getfield 44, 3) := by decide +kernel
theorem dX7_findTurns_76 : decode cX7_findTurns 76 = .ok (.if_icmp .ge 24, 3) := by decide +kernel
theorem dX7_findTurns_79 : decode cX7_findTurns 79 = .ok (.aload_n 0, 1) := by decide +kernel
theorem dX7_findTurns_80 : decode cX7_findTurns 80 = .ok (.getfield 31, 3) := by decide +kernel
theorem dX7_findTurns_83 : decode cX7_findTurns 83 = .ok (.iload_n 2, 1) := by decide +kernel
theorem dX7_findTurns_84 : decode cX7_findTurns 84 = .ok (.dup2, 1) := by decide +kernel
theorem dX7_findTurns_85 : decode cX7_findTurns 85 = .ok (.laload, 1) := by decide +kernel
theorem dX7_findTurns_86 : decode cX7_findTurns 86 = .ok (.aload_n 0, 1) := by decide +kernel
theorem dX7_findTurns_87 : decode cX7_findTurns 87 = .ok (.getfield 34, 3) := by decide +kernel
theorem dX7_findTurns_90 : decode cX7_findTurns 90 = .ok (.iload_n 2, 1) := by decide +kernel
theorem dX7_findTurns_91 : decode cX7_findTurns 91 = .ok (.laload, 1) := by decide +kernel
theorem dX7_findTurns_92 : decode cX7_findTurns 92 = .ok (.lsub, 1) := by decide +kernel
theorem dX7_findTurns_93 : decode cX7_findTurns 93 = .ok (.lastore, 1) := by decide +kernel
theorem dX7_findTurns_94 : decode cX7_findTurns 94 = .ok (.iinc 2 1, 3) := by decide +kernel
theorem dX7_findTurns_97 : decode cX7_findTurns 97 = .ok (.goto (-26), 3) := by decide +kernel
theorem dX7_findTurns_100 : decode cX7_findTurns 100 = .ok (.aload_n 0, 1) := by decide +kernel
theorem dX7_findTurns_101 : decode cX7_findTurns 101 = .ok (.getfield 44, 3) := by decide +kernel
theorem dX7_findTurns_104 : decode cX7_findTurns 104 = .ok (.iload_n 1, 1) := by decide +kernel
theorem dX7_findTurns_105 : decode cX7_findTurns 105 = .ok (.iadd, 1) := by decide +kernel
theorem dX7_findTurns_106 : decode cX7_findTurns 106 = .ok (.bipush 6, 2) := by decide +kernel
theorem dX7_findTurns_108 : decode cX7_findTurns 108 = .ok (.if_icmp .ge 15, 3) := by decide +kernel
theorem dX7_findTurns_111 : decode cX7_findTurns 111 = .ok (.aload_n 0, 1) := by decide +kernel
theorem dX7_findTurns_112 : decode cX7_findTurns 112 = .ok (.getfield 31, 3) := by decide +kernel
theorem dX7_findTurns_115 : decode cX7_findTurns 115 = .ok (.aload_n 0, 1) := by decide +kernel
theorem dX7_findTurns_116 : decode cX7_findTurns 116 = .ok (.getfield 44, 3) := by decide +kernel
theorem dX7_findTurns_119 : decode cX7_findTurns 119 = .ok (.iload_n 1, 1) := by decide +kernel
theorem dX7_findTurns_120 : decode cX7_findTurns 120 = .ok (.iadd, 1) := by decide +kernel
theorem dX7_findTurns_121 : decode cX7_findTurns 121 = .ok (.lconst 1, 1) := by decide +kernel
theorem dX7_findTurns_122 : decode cX7_findTurns 122 = .ok (.lastore, 1) := by decide +kernel
theorem dX7_findTurns_123 : decode cX7_findTurns 123 = .ok (.aload_n 0, 1) := by decide +kernel
theorem dX7_findTurns_124 : decode cX7_findTurns 124 = .ok (.getfield 12, 3) := by decide +kernel
theorem dX7_findTurns_127 : decode cX7_findTurns 127 = .ok (.aload_n 0, 1) := by decide +kernel
theorem dX7_findTurns_128 : decode cX7_findTurns 128 = .ok (.getfield 31, 3) := by decide +kernel
theorem dX7_findTurns_131 : decode cX7_findTurns 131 = .ok (.invokevirtual 158, 3) := by decide +kernel
theorem dX7_findTurns_134 : decode cX7_findTurns 134 = .ok (.iinc 1 1, 3) := by decide +kernel
theorem dX7_findTurns_137 : decode cX7_findTurns 137 = .ok (.goto (-119), 3) := by decide +kernel
theorem dX7_findTurns_140 : decode cX7_findTurns 140 = .ok (.return_, 1) := by decide +kernel
theorem dX7_turnWeightTwo_0 : decode cX7_turnWeightTwo 0 = .ok (.aload_n 0, 1) := by decide +kernel
theorem dX7_turnWeightTwo_1 : decode cX7_turnWeightTwo 1 = .ok (.lconst 0, 1) := by decide +kernel
theorem dX7_turnWeightTwo_2 : decode cX7_turnWeightTwo 2 = .ok (.invokevirtual 95, 3) := by decide +kernel
theorem dX7_turnWeightTwo_5 : decode cX7_turnWeightTwo 5 = .ok (.aload_n 0, 1) := by decide +kernel
theorem dX7_turnWeightTwo_6 : decode cX7_turnWeightTwo 6 = .ok (.aload_n 0, 1) := by decide +kernel
theorem dX7_turnWeightTwo_7 : decode cX7_turnWeightTwo 7 = .ok (.getfield 40, 3) := by decide +kernel
theorem dX7_turnWeightTwo_10 : decode cX7_turnWeightTwo 10 = .ok (.aload_n 0, 1) := by decide +kernel
theorem dX7_turnWeightTwo_11 : decode cX7_turnWeightTwo 11 = .ok (.getfield 44, 3) := by decide +kernel
theorem dX7_turnWeightTwo_14 : decode cX7_turnWeightTwo 14 = .ok (.aload_n 0, 1) := by decide +kernel
theorem dX7_turnWeightTwo_15 : decode cX7_turnWeightTwo 15 = .ok (.getfield 31, 3) := by decide +kernel
theorem dX7_turnWeightTwo_18 : decode cX7_turnWeightTwo 18 = .ok (.invokevirtual 143, 3) := by decide +kernel
theorem dX7_turnWeightTwo_21 : decode cX7_turnWeightTwo 21 = .ok (.aload_n 0, 1) := by decide +kernel
theorem dX7_turnWeightTwo_22 : decode cX7_turnWeightTwo 22 = .ok (.getfield 12, 3) := by decide +kernel
theorem dX7_turnWeightTwo_25 : decode cX7_turnWeightTwo 25 = .ok (.aload_n 0, 1) := by decide +kernel
theorem dX7_turnWeightTwo_26 : decode cX7_turnWeightTwo 26 = .ok (.getfield 31, 3) := by decide +kernel
theorem dX7_turnWeightTwo_29 : decode cX7_turnWeightTwo 29 = .ok (.invokevirtual 150, 3) := by decide +kernel
theorem dX7_turnWeightTwo_32 : decode cX7_turnWeightTwo 32 = .ok (.pop, 1) := by decide +kernel
theorem dX7_turnWeightTwo_33 : decode cX7_turnWeightTwo 33 = .ok (.iconst 0, 1) := by decide +kernel
theorem dX7_turnWeightTwo_34 : decode cX7_turnWeightTwo 34 = .ok (.istore_n 1, 1) := by decide +kernel
theorem dX7_turnWeightTwo_35 : decode cX7_turnWeightTwo 35 = .ok (.iload_n 1, 1) := by decide +kernel
theorem dX7_turnWeightTwo_36 : decode cX7_turnWeightTwo 36 = .ok (.aload_n 0, 1) := by decide +kernel
theorem dX7_turnWeightTwo_37 : decode cX7_turnWeightTwo 37 = .ok (.getfield 44, 3) := by decide +kernel
theorem dX7_turnWeightTwo_40 : decode cX7_turnWeightTwo 40 = .ok (.if_icmp .ge 22, 3) := by decide +kernel
theorem dX7_turnWeightTwo_43 : decode cX7_turnWeightTwo 43 = .ok (.aload_n 0, 1) := by decide +kernel
theorem dX7_turnWeightTwo_44 : decode cX7_turnWeightTwo 44 = .ok (.getfield 31, 3) := by decide +kernel
theorem dX7_turnWeightTwo_47 : decode cX7_turnWeightTwo 47 = .ok (.iload_n 1, 1) := by decide +kernel
theorem dX7_turnWeightTwo_48 : decode cX7_turnWeightTwo 48 = .ok (.laload, 1) := by decide +kernel
theorem dX7_turnWeightTwo_49 : decode cX7_turnWeightTwo 49 = .ok (.lconst 0, 1) := by decide +kernel
theorem dX7_turnWeightTwo_50 : decode cX7_turnWeightTwo 50 = .ok (.lcmp, 1) := by decide +kernel
theorem dX7_turnWeightTwo_51 : decode cX7_turnWeightTwo 51 = .ok (.ifCond .eq 5, 3) := by decide +kernel
theorem dX7_turnWeightTwo_54 : decode cX7_turnWeightTwo 54 = .ok (.iconst 0, 1) := by decide +kernel
theorem dX7_turnWeightTwo_55 : decode cX7_turnWeightTwo 55 = .ok (.ireturn, 1) := by decide +kernel
theorem dX7_turnWeightTwo_56 : decode cX7_turnWeightTwo 56 = .ok (.iinc 1 1, 3) := by decide +kernel
theorem dX7_turnWeightTwo_59 : decode cX7_turnWeightTwo 59 = .ok (.goto (-24), 3) := by decide +kernel
theorem dX7_turnWeightTwo_62 : decode cX7_turnWeightTwo 62 = .ok (.iconst 0, 1) := by decide +kernel
theorem dX7_turnWeightTwo_63 : decode cX7_turnWeightTwo 63 = .ok (.istore_n 1, 1) := by decide +kernel
theorem dX7_turnWeightTwo_64 : decode cX7_turnWeightTwo 64 = .ok (.iload_n 1, 1) := by decide +kernel
theorem dX7_turnWeightTwo_65 : decode cX7_turnWeightTwo 65 = .ok (.aload_n 0, 1) := by decide +kernel
theorem dX7_turnWeightTwo_66 : decode cX7_turnWeightTwo 66 = .ok (.getfield 40, 3) := by decide +kernel
theorem dX7_turnWeightTwo_69 : decode cX7_turnWeightTwo 69 = .ok (.if_icmp .ge 36, 3) := by decide +kernel
theorem dX7_turnWeightTwo_72 : decode cX7_turnWeightTwo 72 = .ok (.aload_n 0, 1) := by decide +kernel
theorem dX7_turnWeightTwo_73 : decode cX7_turnWeightTwo 73 = .ok (.getfield 44, 3) := by decide +kernel
theorem dX7_turnWeightTwo_76 : decode cX7_turnWeightTwo 76 = .ok (.iload_n 1, 1) := by decide +kernel
theorem dX7_turnWeightTwo_77 : decode cX7_turnWeightTwo 77 = .ok (.iadd, 1) := by decide +kernel
theorem dX7_turnWeightTwo_78 : decode cX7_turnWeightTwo 78 = .ok (.bipush 6, 2) := by decide +kernel
theorem dX7_turnWeightTwo_80 : decode cX7_turnWeightTwo 80 = .ok (.if_icmp .ge 25, 3) := by decide +kernel
theorem dX7_turnWeightTwo_83 : decode cX7_turnWeightTwo 83 = .ok (.aload_n 0, 1) := by decide +kernel
theorem dX7_turnWeightTwo_84 : decode cX7_turnWeightTwo 84 = .ok (.iload_n 1, 1) := by decide +kernel
theorem dX7_turnWeightTwo_85 : decode cX7_turnWeightTwo 85 = .ok (.aload_n 0, 1) := by decide +kernel
theorem dX7_turnWeightTwo_86 : decode cX7_turnWeightTwo 86 = .ok (.getfield 31, 3) := by decide +kernel
theorem dX7_turnWeightTwo_89 : decode cX7_turnWeightTwo 89 = .ok (.aload_n 0, 1) := by decide +kernel
theorem dX7_turnWeightTwo_90 : decode cX7_turnWeightTwo 90 = .ok (.getfield 44, 3) := by decide +kernel
theorem dX7_turnWeightTwo_93 : decode cX7_turnWeightTwo 93 = .ok (.iload_n 1, 1) := by decide +kernel
theorem dX7_turnWeightTwo_94 : decode cX7_turnWeightTwo 94 = .ok (.iadd, 1) := by decide +kernel
theorem dX7_turnWeightTwo_95 : decode cX7_turnWeightTwo 95 = .ok (.laload, 1) := by decide +kernel
theorem dX7_turnWeightTwo_96 : decode cX7_turnWeightTwo 96 = .ok (.invokevirtual 125, 3) := by decide +kernel
theorem dX7_turnWeightTwo_99 : decode cX7_turnWeightTwo 99 = .ok (.iinc 1 1, 3) := by decide +kernel
theorem dX7_turnWeightTwo_102 : decode cX7_turnWeightTwo 102 = .ok (.goto (-38), 3) := by decide +kernel
theorem dX7_turnWeightTwo_105 : decode cX7_turnWeightTwo 105 = .ok (.iconst 1, 1) := by decide +kernel
theorem dX7_turnWeightTwo_106 : decode cX7_turnWeightTwo 106 = .ok (.ireturn, 1) := by decide +kernel
theorem dX7_findShifts_0 : decode cX7_findShifts 0 = .ok (.aload_n 0, 1) := by decide +kernel
theorem dX7_findShifts_1 : decode cX7_findShifts 1 = .ok (.getfield 18, 3) := by decide +kernel
theorem dX7_findShifts_4 : decode cX7_findShifts 4 = .ok (.aload_n 0, 1) := by decide +kernel
theorem dX7_findShifts_5 : decode cX7_findShifts 5 = .ok (.getfield 47, 3) := by decide +kernel
theorem dX7_findShifts_8 : decode cX7_findShifts 8 = .ok (.invokevirtual 154, 3) := by decide +kernel
theorem dX7_findShifts_11 : decode cX7_findShifts 11 = .ok (.aload_n 0, 1) := by decide +kernel
theorem dX7_findShifts_12 : decode cX7_findShifts 12 = .ok (.getfield 44, 3) := by decide +kernel
theorem dX7_findShifts_15 : decode cX7_findShifts 15 = .ok (.istore_n 1, 1) := by decide +kernel
theorem dX7_findShifts_16 : decode cX7_findShifts 16 = .ok (.iload_n 1, 1) := by decide +kernel
theorem dX7_findShifts_17 : decode cX7_findShifts 17 = .ok (.aload_n 0, 1) := by decide +kernel
theorem dX7_findShifts_18 : decode cX7_findShifts 18 = .ok (.getfield 44, 3) := by decide +kernel
theorem dX7_findShifts_21 : decode cX7_findShifts 21 = .ok (.aload_n 0, 1) := by decide +kernel
theorem dX7_findShifts_22 : decode cX7_findShifts 22 = .ok (.getfield 40, 3) := by decide +kernel
theorem dX7_findShifts_25 : decode cX7_findShifts 25 = .ok (.iadd, 1) := by decide +kernel
theorem dX7_findShifts_26 : decode cX7_findShifts 26 = .ok (.if_icmp .ge 83, 3) := by decide +kernel
theorem dX7_findShifts_29 : decode cX7_findShifts 29 = .ok (.iload_n 1, 1) := by decide +kernel
theorem dX7_findShifts_30 : decode cX7_findShifts 30 = .ok (.bipush 6, 2) := by decide +kernel
theorem dX7_findShifts_32 : decode cX7_findShifts 32 = .ok (.if_icmp .ge 77, 3) := by decide +kernel
theorem dX7_findShifts_35 : decode cX7_findShifts 35 = .ok (.aload_n 0, 1) := by decide +kernel
theorem dX7_findShifts_36 : decode cX7_findShifts 36 = .ok (.getfield 12, 3) := by decide +kernel
theorem dX7_findShifts_39 : decode cX7_findShifts 39 = .ok (.iload_n 1, 1) := by decide +kernel
theorem dX7_findShifts_40 : decode cX7_findShifts 40 = .ok (.invokevirtual 162, 3) := by decide +kernel
theorem dX7_findShifts_43 : decode cX7_findShifts 43 = .ok (.ifCond .eq 60, 3) := by decide +kernel
theorem dX7_findShifts_46 : decode cX7_findShifts 46 = .ok (.aload_n 0, 1) := by decide +kernel
theorem dX7_findShifts_47 : decode cX7_findShifts 47 = .ok (.lconst 0, 1) := by decide +kernel
theorem dX7_findShifts_48 : decode cX7_findShifts 48 = .ok (.invokevirtual 95, 3) := by decide +kernel
theorem dX7_findShifts_51 : decode cX7_findShifts 51 = .ok (.iconst 0, 1) := by decide +kernel
theorem dX7_findShifts_52 : decode cX7_findShifts 52 = .ok (.istore_n 2, 1) := by decide +kernel
theorem dX7_findShifts_53 : decode cX7_findShifts 53 = .ok (.iload_n 2, 1) := by decide +kernel
theorem dX7_findShifts_54 : decode cX7_findShifts 54 = .ok (.aload_n 0, 1) := by decide +kernel
theorem dX7_findShifts_55 : decode cX7_findShifts 55 = .ok (.getfield 40, 3) := by decide +kernel
theorem dX7_findShifts_58 : decode cX7_findShifts 58 = .ok (.if_icmp .ge 41, 3) := by decide +kernel
theorem dX7_findShifts_61 : decode cX7_findShifts 61 = .ok (.aload_n 0, 1) := by decide +kernel
theorem dX7_findShifts_62 : decode cX7_findShifts 62 = .ok (.getfield 44, 3) := by decide +kernel
theorem dX7_findShifts_65 : decode cX7_findShifts 65 = .ok (.iload_n 2, 1) := by decide +kernel
theorem dX7_findShifts_66 : decode cX7_findShifts 66 = .ok (.iadd, 1) := by decide +kernel
theorem dX7_findShifts_67 : decode cX7_findShifts 67 = .ok (.bipush 6, 2) := by decide +kernel
theorem dX7_findShifts_69 : decode cX7_findShifts 69 = .ok (.if_icmp .ge 30, 3) := by decide +kernel
theorem dX7_findShifts_72 : decode cX7_findShifts 72 = .ok (.aload_n 0, 1) := by decide +kernel
theorem dX7_findShifts_73 : decode cX7_findShifts 73 = .ok (.iload_n 2, 1) := by decide +kernel
theorem dX7_findShifts_74 : decode cX7_findShifts 74 = .ok (.aload_n 0, 1) := by decide +kernel
theorem dX7_findShifts_75 : decode cX7_findShifts 75 = .ok (.getfield 12, 3) := by decide +kernel
theorem dX7_findShifts_78 : decode cX7_findShifts 78 = .ok (.getfield 166, 3) := by decide +kernel
theorem dX7_findShifts_81 : decode cX7_findShifts 81 = .ok (.iload_n 1, 1) := by decide +kernel
theorem dX7_findShifts_82 : decode cX7_findShifts 82 = .ok (.aaload, 1) := by decide +kernel
theorem dX7_findShifts_83 : decode cX7_findShifts 83 = .ok (.aload_n 0, 1) := by decide +kernel
theorem dX7_findShifts_84 : decode cX7_findShifts 84 = .ok (.getfield 44, 3) := by decide +kernel
theorem dX7_findShifts_87 : decode cX7_findShifts 87 = .ok (.iload_n 2, 1) := by decide +kernel
theorem dX7_findShifts_88 : decode cX7_findShifts 88 = .ok (.iadd, 1) := by decide +kernel
theorem dX7_findShifts_89 : decode cX7_findShifts 89 = .ok (.laload, 1) := by decide +kernel
theorem dX7_findShifts_90 : decode cX7_findShifts 90 = .ok (.invokevirtual 125, 3) := by decide +kernel
theorem dX7_findShifts_93 : decode cX7_findShifts 93 = .ok (.iinc 2 1, 3) := by decide +kernel
theorem dX7_findShifts_96 : decode cX7_findShifts 96 = .ok (.goto (-43), 3) := by decide +kernel
theorem dX7_findShifts_99 : decode cX7_findShifts 99 = .ok (.aload_n 0, 1) := by decide +kernel
theorem dX7_findShifts_100 : decode cX7_findShifts 100 = .ok (.invokevirtual 170, 3) := by decide +kernel
theorem dX7_findShifts_103 : decode cX7_findShifts 103 = .ok (.iinc 1 1, 3) := by decide +kernel
theorem dX7_findShifts_106 : decode cX7_findShifts 106 = .ok (.goto (-90), 3) := by decide +kernel
theorem dX7_findShifts_109 : decode cX7_findShifts 109 = .ok (.aload_n 0, 1) := by decide +kernel
theorem dX7_findShifts_110 : decode cX7_findShifts 110 = .ok (.getfield 40, 3) := by decide +kernel
theorem dX7_findShifts_113 : decode cX7_findShifts 113 = .ok (.istore_n 1, 1) := by decide +kernel
theorem dX7_findShifts_114 : decode cX7_findShifts 114 = .ok (.iload_n 1, 1) := by decide +kernel
theorem dX7_findShifts_115 : decode cX7_findShifts 115 = .ok (.aload_n 0, 1) := by decide +kernel
theorem dX7_findShifts_116 : decode cX7_findShifts 116 = .ok (.getfield 40, 3) := by decide +kernel
theorem dX7_findShifts_119 : decode cX7_findShifts 119 = .ok (.aload_n 0, 1) := by decide +kernel
theorem dX7_findShifts_120 : decode cX7_findShifts 120 = .ok (.getfield 44, 3) := by decide +kernel
theorem dX7_findShifts_123 : decode cX7_findShifts 123 = .ok (.iadd, 1) := by decide +kernel
theorem dX7_findShifts_124 : decode cX7_findShifts 124 = .ok (.if_icmp .ge 24, 3) := by decide +kernel
theorem dX7_findShifts_127 : decode cX7_findShifts 127 = .ok (.aload_n 0, 1) := by decide +kernel
theorem dX7_findShifts_128 : decode cX7_findShifts 128 = .ok (.lconst 0, 1) := by decide +kernel
theorem dX7_findShifts_129 : decode cX7_findShifts 129 = .ok (.invokevirtual 95, 3) := by decide +kernel
theorem dX7_findShifts_132 : decode cX7_findShifts 132 = .ok (.aload_n 0, 1) := by decide +kernel
theorem dX7_findShifts_133 : decode cX7_findShifts 133 = .ok (.iload_n 1, 1) := by decide +kernel
theorem dX7_findShifts_134 : decode cX7_findShifts 134 = .ok (.lconst 1, 1) := by decide +kernel
theorem dX7_findShifts_135 : decode cX7_findShifts 135 = .ok (.invokevirtual 125, 3) := by decide +kernel
theorem dX7_findShifts_138 : decode cX7_findShifts 138 = .ok (.aload_n 0, 1) := by decide +kernel
theorem dX7_findShifts_139 : decode cX7_findShifts 139 = .ok (.invokevirtual 170, 3) := by decide +kernel
theorem dX7_findShifts_142 : decode cX7_findShifts 142 = .ok (.iinc 1 1, 3) := by decide +kernel
theorem dX7_findShifts_145 : decode cX7_findShifts 145 = .ok (.goto (-31), 3) := by decide +kernel
theorem dX7_findShifts_148 : decode cX7_findShifts 148 = .ok (.return_, 1) := by decide +kernel
theorem dX7_insertShift_0 : decode cX7_insertShift 0 = .ok (.aload_n 0, 1) := by decide +kernel
theorem dX7_insertShift_1 : decode cX7_insertShift 1 = .ok (.aload_n 0, 1) := by decide +kernel
theorem dX7_insertShift_2 : decode cX7_insertShift 2 = .ok (.getfield 40, 3) := by decide +kernel
theorem dX7_insertShift_5 : decode cX7_insertShift 5 = .ok (.aload_n 0, 1) := by decide +kernel
theorem dX7_insertShift_6 : decode cX7_insertShift 6 = .ok (.getfield 44, 3) := by decide +kernel
theorem dX7_insertShift_9 : decode cX7_insertShift 9 = .ok (.iadd, 1) := by decide +kernel
theorem dX7_insertShift_10 : decode cX7_insertShift 10 = .ok (.aload_n 0, 1) := by decide +kernel
theorem dX7_insertShift_11 : decode cX7_insertShift 11 = .ok (.getfield 47, 3) := by decide +kernel
theorem dX7_insertShift_14 : decode cX7_insertShift 14 = .ok (.aload_n 0, 1) := by decide +kernel
theorem dX7_insertShift_15 : decode cX7_insertShift 15 = .ok (.getfield 31, 3) := by decide +kernel
theorem dX7_insertShift_18 : decode cX7_insertShift 18 = .ok (.invokevirtual 143, 3) := by decide +kernel
theorem dX7_insertShift_21 : decode cX7_insertShift 21 = .ok (.aload_n 0, 1) := by decide +kernel
theorem dX7_insertShift_22 : decode cX7_insertShift 22 = .ok (.getfield 18, 3) := by decide +kernel
theorem dX7_insertShift_25 : decode cX7_insertShift 25 = .ok (.aload_n 0, 1) := by decide +kernel
theorem dX7_insertShift_26 : decode cX7_insertShift 26 = .ok (.getfield 31, 3) := by decide +kernel
theorem dX7_insertShift_29 : decode cX7_insertShift 29 = .ok (.invokevirtual 158, 3) := by decide +kernel
theorem dX7_insertShift_32 : decode cX7_insertShift 32 = .ok (.return_, 1) := by decide +kernel
theorem dX7_copyGaps_0 : decode cX7_copyGaps 0 = .ok (.aload_n 3, 1) := by decide +kernel
theorem dX7_copyGaps_1 : decode cX7_copyGaps 1 = .ok (.lconst 0, 1) := by decide +kernel
theorem dX7_copyGaps_2 : decode cX7_copyGaps 2 = .ok (.invokestatic 173, 3) := by decide +kernel
theorem dX7_copyGaps_5 : decode cX7_copyGaps 5 = .ok (.iconst 0, 1) := by decide +kernel
theorem dX7_copyGaps_6 : decode cX7_copyGaps 6 = .ok (.istore 4, 2) := by decide +kernel
theorem dX7_copyGaps_8 : decode cX7_copyGaps 8 = .ok (.iload 4, 2) := by decide +kernel
theorem dX7_copyGaps_10 : decode cX7_copyGaps 10 = .ok (.iload_n 2, 1) := by decide +kernel
theorem dX7_copyGaps_11 : decode cX7_copyGaps 11 = .ok (.if_icmp .ge 38, 3) := by decide +kernel
theorem dX7_copyGaps_14 : decode cX7_copyGaps 14 = .ok (.iload_n 1, 1) := by decide +kernel
theorem dX7_copyGaps_15 : decode cX7_copyGaps 15 = .ok (.iload 4, 2) := by decide +kernel
theorem dX7_copyGaps_17 : decode cX7_copyGaps 17 = .ok (.iadd, 1) := by decide +kernel
theorem dX7_copyGaps_18 : decode cX7_copyGaps 18 = .ok (.bipush 6, 2) := by decide +kernel
theorem dX7_copyGaps_20 : decode cX7_copyGaps 20 = .ok (.if_icmp .ge 29, 3) := by decide +kernel
theorem dX7_copyGaps_23 : decode cX7_copyGaps 23 = .ok (.aload_n 3, 1) := by decide +kernel
theorem dX7_copyGaps_24 : decode cX7_copyGaps 24 = .ok (.iload 4, 2) := by decide +kernel
theorem dX7_copyGaps_26 : decode cX7_copyGaps 26 = .ok (.aload_n 0, 1) := by decide +kernel
theorem dX7_copyGaps_27 : decode cX7_copyGaps 27 = .ok (.getfield 23, 3) := by decide +kernel
theorem dX7_copyGaps_30 : decode cX7_copyGaps 30 = .ok (.iload_n 1, 1) := by decide +kernel
theorem dX7_copyGaps_31 : decode cX7_copyGaps 31 = .ok (.iload 4, 2) := by decide +kernel
theorem dX7_copyGaps_33 : decode cX7_copyGaps 33 = .ok (.iadd, 1) := by decide +kernel
theorem dX7_copyGaps_34 : decode cX7_copyGaps 34 = .ok (.aaload, 1) := by decide +kernel
theorem dX7_copyGaps_35 : decode cX7_copyGaps 35 = .ok (.aload_n 0, 1) := by decide +kernel
theorem dX7_copyGaps_36 : decode cX7_copyGaps 36 = .ok (.getfield 27, 3) := by decide +kernel
theorem dX7_copyGaps_39 : decode cX7_copyGaps 39 = .ok (.invokevirtual 129, 3) := by decide +kernel
theorem dX7_copyGaps_42 : decode cX7_copyGaps 42 = .ok (.lastore, 1) := by decide +kernel
theorem dX7_copyGaps_43 : decode cX7_copyGaps 43 = .ok (.iinc 4 1, 3) := by decide +kernel
theorem dX7_copyGaps_46 : decode cX7_copyGaps 46 = .ok (.goto (-38), 3) := by decide +kernel
theorem dX7_copyGaps_49 : decode cX7_copyGaps 49 = .ok (.return_, 1) := by decide +kernel
theorem dX8_init_0 : decode cX8_init 0 = .ok (.aload_n 0, 1) := by decide +kernel
theorem dX8_init_1 : decode cX8_init 1 = .ok (.invokespecial 3, 3) := by decide +kernel
theorem dX8_init_4 : decode cX8_init 4 = .ok (.aload_n 0, 1) := by decide +kernel
theorem dX8_init_5 : decode cX8_init 5 = .ok (.new 9, 3) := by decide +kernel
theorem dX8_init_8 : decode cX8_init 8 = .ok (.dup, 1) := by decide +kernel
theorem dX8_init_9 : decode cX8_init 9 = .ok (.invokespecial 11, 3) := by decide +kernel
theorem dX8_init_12 : decode cX8_init 12 = .ok (.putfield 12, 3) := by decide +kernel
theorem dX8_init_15 : decode cX8_init 15 = .ok (.aload_n 0, 1) := by decide +kernel
theorem dX8_init_16 : decode cX8_init 16 = .ok (.bipush 10, 2) := by decide +kernel
theorem dX8_init_18 : decode cX8_init 18 = .ok (.bipush 6, 2) := by decide +kernel
theorem dX8_init_20 : decode cX8_init 20 = .ok (.multianewarray 18 2, 4) := by decide +kernel
theorem dX8_init_24 : decode cX8_init 24 = .ok (.putfield 20, 3) := by decide +kernel
theorem dX8_init_27 : decode cX8_init 27 = .ok (.aload_n 0, 1) := by decide +kernel
theorem dX8_init_28 : decode cX8_init 28 = .ok (.bipush 8, 2) := by decide +kernel
theorem dX8_init_30 : decode cX8_init 30 = .ok (.newarray .int, 2) := by decide +kernel
theorem dX8_init_32 : decode cX8_init 32 = .ok (.putfield 23, 3) := by decide +kernel
theorem dX8_init_35 : decode cX8_init 35 = .ok (.return_, 1) := by decide +kernel
theorem dX8_clearRegisters_0 : decode cX8_clearRegisters 0 = .ok (.iconst 0, 1) := by decide +kernel
theorem dX8_clearRegisters_1 : decode cX8_clearRegisters 1 = .ok (.istore_n 1, 1) := by decide +kernel
theorem dX8_clearRegisters_2 : decode cX8_clearRegisters 2 = .ok (.iload_n 1, 1) := by decide +kernel
theorem dX8_clearRegisters_3 : decode cX8_clearRegisters 3 = .ok (.bipush 10, 2) := by decide +kernel
theorem dX8_clearRegisters_5 : decode cX8_clearRegisters 5 = .ok (.if_icmp .ge 19, 3) := by decide +kernel
theorem dX8_clearRegisters_8 : decode cX8_clearRegisters 8 = .ok (.aload_n 0, 1) := by decide +kernel
theorem dX8_clearRegisters_9 : decode cX8_clearRegisters 9 = .ok (.getfield 20, 3) := by decide +kernel
theorem dX8_clearRegisters_12 : decode cX8_clearRegisters 12 = .ok (.iload_n 1, 1) := by decide +kernel
theorem dX8_clearRegisters_13 : decode cX8_clearRegisters 13 = .ok (.aaload, 1) := by decide +kernel
theorem dX8_clearRegisters_14 : decode cX8_clearRegisters 14 = .ok (.lconst 0, 1) := by decide +kernel
theorem dX8_clearRegisters_15 : decode cX8_clearRegisters 15 = .ok (.invokestatic 27, 3) := by decide +kernel
theorem dX8_clearRegisters_18 : decode cX8_clearRegisters 18 = .ok (.iinc 1 1, 3) := by decide +kernel
theorem dX8_clearRegisters_21 : decode cX8_clearRegisters 21 = .ok (.goto (-19), 3) := by decide +kernel
theorem dX8_clearRegisters_24 : decode cX8_clearRegisters 24 = .ok (.return_, 1) := by decide +kernel
theorem dX8_takeActed_0 : decode cX8_takeActed 0 = .ok (.aload_n 0, 1) := by decide +kernel
theorem dX8_takeActed_1 : decode cX8_takeActed 1 = .ok (.getfield 12, 3) := by decide +kernel
theorem dX8_takeActed_4 : decode cX8_takeActed 4 = .ok (.aload_n 1, 1) := by decide +kernel
theorem dX8_takeActed_5 : decode cX8_takeActed 5 = .ok (.getfield 12, 3) := by decide +kernel
theorem dX8_takeActed_8 : decode cX8_takeActed 8 = .ok (.invokevirtual 33, 3) := by decide +kernel
theorem dX8_takeActed_11 : decode cX8_takeActed 11 = .ok (.iconst 0, 1) := by decide +kernel
theorem dX8_takeActed_12 : decode cX8_takeActed 12 = .ok (.istore_n 2, 1) := by decide +kernel
theorem dX8_takeActed_13 : decode cX8_takeActed 13 = .ok (.iload_n 2, 1) := by decide +kernel
theorem dX8_takeActed_14 : decode cX8_takeActed 14 = .ok (.bipush 10, 2) := by decide +kernel
theorem dX8_takeActed_16 : decode cX8_takeActed 16 = .ok (.if_icmp .ge 24, 3) := by decide +kernel
theorem dX8_takeActed_19 : decode cX8_takeActed 19 = .ok (.aload_n 1, 1) := by decide +kernel
theorem dX8_takeActed_20 : decode cX8_takeActed 20 = .ok (.getfield 20, 3) := by decide +kernel
theorem dX8_takeActed_23 : decode cX8_takeActed 23 = .ok (.iload_n 2, 1) := by decide +kernel
theorem dX8_takeActed_24 : decode cX8_takeActed 24 = .ok (.aaload, 1) := by decide +kernel
theorem dX8_takeActed_25 : decode cX8_takeActed 25 = .ok (.aload_n 0, 1) := by decide +kernel
theorem dX8_takeActed_26 : decode cX8_takeActed 26 = .ok (.getfield 20, 3) := by decide +kernel
theorem dX8_takeActed_29 : decode cX8_takeActed 29 = .ok (.iload_n 2, 1) := by decide +kernel
theorem dX8_takeActed_30 : decode cX8_takeActed 30 = .ok (.aaload, 1) := by decide +kernel
theorem dX8_takeActed_31 : decode cX8_takeActed 31 = .ok (.invokestatic 37, 3) := by decide +kernel
theorem dX8_takeActed_34 : decode cX8_takeActed 34 = .ok (.iinc 2 1, 3) := by decide +kernel
theorem dX8_takeActed_37 : decode cX8_takeActed 37 = .ok (.goto (-24), 3) := by decide +kernel
theorem dX8_takeActed_40 : decode cX8_takeActed 40 = .ok (.return_, 1) := by decide +kernel
theorem dX8_takeAll_0 : decode cX8_takeAll 0 = .ok (.aload_n 0, 1) := by decide +kernel
theorem dX8_takeAll_1 : decode cX8_takeAll 1 = .ok (.aload_n 1, 1) := by decide +kernel
theorem dX8_takeAll_2 : decode cX8_takeAll 2 = .ok (.invokevirtual 43, 3) := by decide +kernel
theorem dX8_takeAll_5 : decode cX8_takeAll 5 = .ok (.aload_n 1, 1) := by decide +kernel
theorem dX8_takeAll_6 : decode cX8_takeAll 6 = .ok (.getfield 23, 3) := by decide +kernel
theorem dX8_takeAll_9 : decode cX8_takeAll 9 = .ok (.iconst 0, 1) := by decide +kernel
theorem dX8_takeAll_10 : decode cX8_takeAll 10 = .ok (.aload_n 0, 1) := by decide +kernel
theorem dX8_takeAll_11 : decode cX8_takeAll 11 = .ok (.getfield 23, 3) := by decide +kernel
theorem dX8_takeAll_14 : decode cX8_takeAll 14 = .ok (.iconst 0, 1) := by decide +kernel
theorem dX8_takeAll_15 : decode cX8_takeAll 15 = .ok (.aload_n 0, 1) := by decide +kernel
theorem dX8_takeAll_16 : decode cX8_takeAll 16 = .ok (.getfield 23, 3) := by decide +kernel
theorem dX8_takeAll_19 : decode cX8_takeAll 19 = .ok (.arraylength, 1) := by decide +kernel
theorem dX8_takeAll_20 : decode cX8_takeAll 20 = .ok (.invokestatic 47, 3) := by decide +kernel
theorem dX8_takeAll_23 : decode cX8_takeAll 23 = .ok (.return_, 1) := by decide +kernel
theorem dX9_init_0 : decode cX9_init 0 = .ok (.aload_n 0, 1) := by decide +kernel
theorem dX9_init_1 : decode cX9_init 1 = .ok (.invokespecial 3, 3) := by decide +kernel
theorem dX9_init_4 : decode cX9_init 4 = .ok (.aload_n 0, 1) := by decide +kernel
theorem dX9_init_5 : decode cX9_init 5 = .ok (.iconst 0, 1) := by decide +kernel
theorem dX9_init_6 : decode cX9_init 6 = .ok (.putfield 9, 3) := by decide +kernel
theorem dX9_init_9 : decode cX9_init 9 = .ok (.aload_n 0, 1) := by decide +kernel
theorem dX9_init_10 : decode cX9_init 10 = .ok (.sipush 455, 3) := by decide +kernel
theorem dX9_init_13 : decode cX9_init 13 = .ok (.newarray .int, 2) := by decide +kernel
theorem dX9_init_15 : decode cX9_init 15 = .ok (.putfield 15, 3) := by decide +kernel
theorem dX9_init_18 : decode cX9_init 18 = .ok (.aload_n 0, 1) := by decide +kernel
theorem dX9_init_19 : decode cX9_init 19 = .ok (.sipush 455, 3) := by decide +kernel
theorem dX9_init_22 : decode cX9_init 22 = .ok (.newarray .long, 2) := by decide +kernel
theorem dX9_init_24 : decode cX9_init 24 = .ok (.putfield 19, 3) := by decide +kernel
theorem dX9_init_27 : decode cX9_init 27 = .ok (.aload_n 0, 1) := by decide +kernel
theorem dX9_init_28 : decode cX9_init 28 = .ok (.sipush 455, 3) := by decide +kernel
theorem dX9_init_31 : decode cX9_init 31 = .ok (.newarray .int, 2) := by decide +kernel
theorem dX9_init_33 : decode cX9_init 33 = .ok (.putfield 23, 3) := by decide +kernel
theorem dX9_init_36 : decode cX9_init 36 = .ok (.return_, 1) := by decide +kernel
theorem dX9_append_0 : decode cX9_append 0 = .ok (.aload_n 0, 1) := by decide +kernel
theorem dX9_append_1 : decode cX9_append 1 = .ok (.getfield 9, 3) := by decide +kernel
theorem dX9_append_4 : decode cX9_append 4 = .ok (.sipush 455, 3) := by decide +kernel
theorem dX9_append_7 : decode cX9_append 7 = .ok (.if_icmp .ge 46, 3) := by decide +kernel
theorem dX9_append_10 : decode cX9_append 10 = .ok (.aload_n 0, 1) := by decide +kernel
theorem dX9_append_11 : decode cX9_append 11 = .ok (.getfield 15, 3) := by decide +kernel
theorem dX9_append_14 : decode cX9_append 14 = .ok (.aload_n 0, 1) := by decide +kernel
theorem dX9_append_15 : decode cX9_append 15 = .ok (.getfield 9, 3) := by decide +kernel
theorem dX9_append_18 : decode cX9_append 18 = .ok (.iload_n 1, 1) := by decide +kernel
theorem dX9_append_19 : decode cX9_append 19 = .ok (.iastore, 1) := by decide +kernel
theorem dX9_append_20 : decode cX9_append 20 = .ok (.aload_n 0, 1) := by decide +kernel
theorem dX9_append_21 : decode cX9_append 21 = .ok (.getfield 19, 3) := by decide +kernel
theorem dX9_append_24 : decode cX9_append 24 = .ok (.aload_n 0, 1) := by decide +kernel
theorem dX9_append_25 : decode cX9_append 25 = .ok (.getfield 9, 3) := by decide +kernel
theorem dX9_append_28 : decode cX9_append 28 = .ok (.lload_n 2, 1) := by decide +kernel
theorem dX9_append_29 : decode cX9_append 29 = .ok (.lastore, 1) := by decide +kernel
theorem dX9_append_30 : decode cX9_append 30 = .ok (.aload_n 0, 1) := by decide +kernel
theorem dX9_append_31 : decode cX9_append 31 = .ok (.getfield 23, 3) := by decide +kernel
theorem dX9_append_34 : decode cX9_append 34 = .ok (.aload_n 0, 1) := by decide +kernel
theorem dX9_append_35 : decode cX9_append 35 = .ok (.getfield 9, 3) := by decide +kernel
theorem dX9_append_38 : decode cX9_append 38 = .ok (.iload_n 1, 1) := by decide +kernel
theorem dX9_append_39 : decode cX9_append 39 = .ok (.invokestatic 26, 3) := by decide +kernel
theorem dX9_append_42 : decode cX9_append 42 = .ok (.iastore, 1) := by decide +kernel
theorem dX9_append_43 : decode cX9_append 43 = .ok (.aload_n 0, 1) := by decide +kernel
theorem dX9_append_44 : decode cX9_append 44 = .ok (.dup, 1) := by decide +kernel
theorem dX9_append_45 : decode cX9_append 45 = .ok (.getfield 9, 3) := by decide +kernel
theorem dX9_append_48 : decode cX9_append 48 = .ok (.iconst 1, 1) := by decide +kernel
theorem dX9_append_49 : decode cX9_append 49 = .ok (.iadd, 1) := by decide +kernel
theorem dX9_append_50 : decode cX9_append 50 = .ok (.putfield 9, 3) := by decide +kernel
theorem dX9_append_53 : decode cX9_append 53 = .ok (.return_, 1) := by decide +kernel
theorem dX9_merge_0 : decode cX9_merge 0 = .ok (.lload_n 2, 1) := by decide +kernel
theorem dX9_merge_1 : decode cX9_merge 1 = .ok (.lconst 0, 1) := by decide +kernel
theorem dX9_merge_2 : decode cX9_merge 2 = .ok (.lcmp, 1) := by decide +kernel
theorem dX9_merge_3 : decode cX9_merge 3 = .ok (.ifCond .ne 4, 3) := by decide +kernel
theorem dX9_merge_6 : decode cX9_merge 6 = .ok (.return_, 1) := by decide +kernel
theorem dX9_merge_7 : decode cX9_merge 7 = .ok (.iconst 0, 1) := by decide +kernel
theorem dX9_merge_8 : decode cX9_merge 8 = .ok (.istore 4, 2) := by decide +kernel
theorem dX9_merge_10 : decode cX9_merge 10 = .ok (.iload 4, 2) := by decide +kernel
theorem dX9_merge_12 : decode cX9_merge 12 = .ok (.aload_n 0, 1) := by decide +kernel
theorem dX9_merge_13 : decode cX9_merge 13 = .ok (.getfield 9, 3) := by decide +kernel
theorem dX9_merge_16 : decode cX9_merge 16 = .ok (.if_icmp .ge 32, 3) := by decide +kernel
theorem dX9_merge_19 : decode cX9_merge 19 = .ok (.aload_n 0, 1) := by decide +kernel
theorem dX9_merge_20 : decode cX9_merge 20 = .ok (.getfield 15, 3) := by decide +kernel
theorem dX9_merge_23 : decode cX9_merge 23 = .ok (.iload 4, 2) := by decide +kernel
theorem dX9_merge_25 : decode cX9_merge 25 = .ok (.iaload, 1) := by decide +kernel
theorem dX9_merge_26 : decode cX9_merge 26 = .ok (.iload_n 1, 1) := by decide +kernel
theorem dX9_merge_27 : decode cX9_merge 27 = .ok (.if_icmp .ne 15, 3) := by decide +kernel
theorem dX9_merge_30 : decode cX9_merge 30 = .ok (.aload_n 0, 1) := by decide +kernel
theorem dX9_merge_31 : decode cX9_merge 31 = .ok (.getfield 19, 3) := by decide +kernel
theorem dX9_merge_34 : decode cX9_merge 34 = .ok (.iload 4, 2) := by decide +kernel
theorem dX9_merge_36 : decode cX9_merge 36 = .ok (.dup2, 1) := by decide +kernel
theorem dX9_merge_37 : decode cX9_merge 37 = .ok (.laload, 1) := by decide +kernel
theorem dX9_merge_38 : decode cX9_merge 38 = .ok (.lload_n 2, 1) := by decide +kernel
theorem dX9_merge_39 : decode cX9_merge 39 = .ok (.ladd, 1) := by decide +kernel
theorem dX9_merge_40 : decode cX9_merge 40 = .ok (.lastore, 1) := by decide +kernel
theorem dX9_merge_41 : decode cX9_merge 41 = .ok (.return_, 1) := by decide +kernel
theorem dX9_merge_42 : decode cX9_merge 42 = .ok (.iinc 4 1, 3) := by decide +kernel
theorem dX9_merge_45 : decode cX9_merge 45 = .ok (.goto (-35), 3) := by decide +kernel
theorem dX9_merge_48 : decode cX9_merge 48 = .ok (.aload_n 0, 1) := by decide +kernel
theorem dX9_merge_49 : decode cX9_merge 49 = .ok (.iload_n 1, 1) := by decide +kernel
theorem dX9_merge_50 : decode cX9_merge 50 = .ok (.lload_n 2, 1) := by decide +kernel
theorem dX9_merge_51 : decode cX9_merge 51 = .ok (.invokevirtual 30, 3) := by decide +kernel
theorem dX9_merge_54 : decode cX9_merge 54 = .ok (.return_, 1) := by decide +kernel
theorem dX9_value_0 : decode cX9_value 0 = .ok (.lconst 0, 1) := by decide +kernel
theorem dX9_value_1 : decode cX9_value 1 = .ok (.lstore_n 2, 1) := by decide +kernel
theorem dX9_value_2 : decode cX9_value 2 = .ok (.iconst 0, 1) := by decide +kernel
theorem dX9_value_3 : decode cX9_value 3 = .ok (.istore 4, 2) := by decide +kernel
theorem dX9_value_5 : decode cX9_value 5 = .ok (.iload 4, 2) := by decide +kernel
theorem dX9_value_7 : decode cX9_value 7 = .ok (.aload_n 0, 1) := by decide +kernel
theorem dX9_value_8 : decode cX9_value 8 = .ok (.getfield 9, 3) := by decide +kernel
theorem dX9_value_11 : decode cX9_value 11 = .ok (.if_icmp .ge 58, 3) := by decide +kernel
theorem dX9_value_14 : decode cX9_value 14 = .ok (.aload_n 0, 1) := by decide +kernel
theorem dX9_value_15 : decode cX9_value 15 = .ok (.getfield 23, 3) := by decide +kernel
theorem dX9_value_18 : decode cX9_value 18 = .ok (.iload 4, 2) := by decide +kernel
theorem dX9_value_20 : decode cX9_value 20 = .ok (.iaload, 1) := by decide +kernel
theorem dX9_value_21 : decode cX9_value 21 = .ok (.istore 5, 2) := by decide +kernel
theorem dX9_value_23 : decode cX9_value 23 = .ok (.lload_n 2, 1) := by decide +kernel
theorem dX9_value_24 : decode cX9_value 24 = .ok (.aload_n 0, 1) := by decide +kernel
theorem dX9_value_25 : decode cX9_value 25 = .ok (.getfield 19, 3) := by decide +kernel
theorem dX9_value_28 : decode cX9_value 28 = .ok (.iload 4, 2) := by decide +kernel
theorem dX9_value_30 : decode cX9_value 30 = .ok (.laload, 1) := by decide +kernel
theorem dX9_value_31 : decode cX9_value 31 = .ok (.aload_n 1, 1) := by decide +kernel
theorem dX9_value_32 : decode cX9_value 32 = .ok (.iload 5, 2) := by decide +kernel
theorem dX9_value_34 : decode cX9_value 34 = .ok (.bipush 63, 2) := by decide +kernel
theorem dX9_value_36 : decode cX9_value 36 = .ok (.iand, 1) := by decide +kernel
theorem dX9_value_37 : decode cX9_value 37 = .ok (.laload, 1) := by decide +kernel
theorem dX9_value_38 : decode cX9_value 38 = .ok (.lmul, 1) := by decide +kernel
theorem dX9_value_39 : decode cX9_value 39 = .ok (.aload_n 1, 1) := by decide +kernel
theorem dX9_value_40 : decode cX9_value 40 = .ok (.iload 5, 2) := by decide +kernel
theorem dX9_value_42 : decode cX9_value 42 = .ok (.bipush 6, 2) := by decide +kernel
theorem dX9_value_44 : decode cX9_value 44 = .ok (.ishr, 1) := by decide +kernel
theorem dX9_value_45 : decode cX9_value 45 = .ok (.bipush 63, 2) := by decide +kernel
theorem dX9_value_47 : decode cX9_value 47 = .ok (.iand, 1) := by decide +kernel
theorem dX9_value_48 : decode cX9_value 48 = .ok (.laload, 1) := by decide +kernel
theorem dX9_value_49 : decode cX9_value 49 = .ok (.lmul, 1) := by decide +kernel
theorem dX9_value_50 : decode cX9_value 50 = .ok (.aload_n 1, 1) := by decide +kernel
theorem dX9_value_51 : decode cX9_value 51 = .ok (.iload 5, 2) := by decide +kernel
theorem dX9_value_53 : decode cX9_value 53 = .ok (.bipush 12, 2) := by decide +kernel
theorem dX9_value_55 : decode cX9_value 55 = .ok (.ishr, 1) := by decide +kernel
theorem dX9_value_56 : decode cX9_value 56 = .ok (.bipush 63, 2) := by decide +kernel
theorem dX9_value_58 : decode cX9_value 58 = .ok (.iand, 1) := by decide +kernel
theorem dX9_value_59 : decode cX9_value 59 = .ok (.laload, 1) := by decide +kernel
theorem dX9_value_60 : decode cX9_value 60 = .ok (.lmul, 1) := by decide +kernel
theorem dX9_value_61 : decode cX9_value 61 = .ok (.ladd, 1) := by decide +kernel
theorem dX9_value_62 : decode cX9_value 62 = .ok (.lstore_n 2, 1) := by decide +kernel
theorem dX9_value_63 : decode cX9_value 63 = .ok (.iinc 4 1, 3) := by decide +kernel
theorem dX9_value_66 : decode cX9_value 66 = .ok (.goto (-61), 3) := by decide +kernel
theorem dX9_value_69 : decode cX9_value 69 = .ok (.lload_n 2, 1) := by decide +kernel
theorem dX9_value_70 : decode cX9_value 70 = .ok (.lreturn, 1) := by decide +kernel
theorem dX9_factors_0 : decode cX9_factors 0 = .ok (.aload_n 1, 1) := by decide +kernel
theorem dX9_factors_1 : decode cX9_factors 1 = .ok (.iload_n 0, 1) := by decide +kernel
theorem dX9_factors_2 : decode cX9_factors 2 = .ok (.bipush 63, 2) := by decide +kernel
theorem dX9_factors_4 : decode cX9_factors 4 = .ok (.iand, 1) := by decide +kernel
theorem dX9_factors_5 : decode cX9_factors 5 = .ok (.laload, 1) := by decide +kernel
theorem dX9_factors_6 : decode cX9_factors 6 = .ok (.aload_n 1, 1) := by decide +kernel
theorem dX9_factors_7 : decode cX9_factors 7 = .ok (.iload_n 0, 1) := by decide +kernel
theorem dX9_factors_8 : decode cX9_factors 8 = .ok (.bipush 6, 2) := by decide +kernel
theorem dX9_factors_10 : decode cX9_factors 10 = .ok (.ishr, 1) := by decide +kernel
theorem dX9_factors_11 : decode cX9_factors 11 = .ok (.bipush 63, 2) := by decide +kernel
theorem dX9_factors_13 : decode cX9_factors 13 = .ok (.iand, 1) := by decide +kernel
theorem dX9_factors_14 : decode cX9_factors 14 = .ok (.laload, 1) := by decide +kernel
theorem dX9_factors_15 : decode cX9_factors 15 = .ok (.lmul, 1) := by decide +kernel
theorem dX9_factors_16 : decode cX9_factors 16 = .ok (.aload_n 1, 1) := by decide +kernel
theorem dX9_factors_17 : decode cX9_factors 17 = .ok (.iload_n 0, 1) := by decide +kernel
theorem dX9_factors_18 : decode cX9_factors 18 = .ok (.bipush 12, 2) := by decide +kernel
theorem dX9_factors_20 : decode cX9_factors 20 = .ok (.ishr, 1) := by decide +kernel
theorem dX9_factors_21 : decode cX9_factors 21 = .ok (.bipush 63, 2) := by decide +kernel
theorem dX9_factors_23 : decode cX9_factors 23 = .ok (.iand, 1) := by decide +kernel
theorem dX9_factors_24 : decode cX9_factors 24 = .ok (.laload, 1) := by decide +kernel
theorem dX9_factors_25 : decode cX9_factors 25 = .ok (.lmul, 1) := by decide +kernel
theorem dX9_factors_26 : decode cX9_factors 26 = .ok (.lreturn, 1) := by decide +kernel
theorem dX9_placesOf_0 : decode cX9_placesOf 0 = .ok (.iconst 0, 1) := by decide +kernel
theorem dX9_placesOf_1 : decode cX9_placesOf 1 = .ok (.istore_n 1, 1) := by decide +kernel
theorem dX9_placesOf_2 : decode cX9_placesOf 2 = .ok (.iconst 0, 1) := by decide +kernel
theorem dX9_placesOf_3 : decode cX9_placesOf 3 = .ok (.istore_n 2, 1) := by decide +kernel
theorem dX9_placesOf_4 : decode cX9_placesOf 4 = .ok (.iload_n 2, 1) := by decide +kernel
theorem dX9_placesOf_5 : decode cX9_placesOf 5 = .ok (.bipush 12, 2) := by decide +kernel
theorem dX9_placesOf_7 : decode cX9_placesOf 7 = .ok (.if_icmp .ge 30, 3) := by decide +kernel
theorem dX9_placesOf_10 : decode cX9_placesOf 10 = .ok (.iload_n 0, 1) := by decide +kernel
theorem dX9_placesOf_11 : decode cX9_placesOf 11 = .ok (.iload_n 2, 1) := by decide +kernel
theorem dX9_placesOf_12 : decode cX9_placesOf 12 = .ok (.invokestatic 34, 3) := by decide +kernel
theorem dX9_placesOf_15 : decode cX9_placesOf 15 = .ok (.istore_n 3, 1) := by decide +kernel
theorem dX9_placesOf_16 : decode cX9_placesOf 16 = .ok (.iload_n 3, 1) := by decide +kernel
theorem dX9_placesOf_17 : decode cX9_placesOf 17 = .ok (.ifCond .le 14, 3) := by decide +kernel
theorem dX9_placesOf_20 : decode cX9_placesOf 20 = .ok (.iload_n 1, 1) := by decide +kernel
theorem dX9_placesOf_21 : decode cX9_placesOf 21 = .ok (.bipush 6, 2) := by decide +kernel
theorem dX9_placesOf_23 : decode cX9_placesOf 23 = .ok (.ishl, 1) := by decide +kernel
theorem dX9_placesOf_24 : decode cX9_placesOf 24 = .ok (.iconst 4, 1) := by decide +kernel
theorem dX9_placesOf_25 : decode cX9_placesOf 25 = .ok (.iload_n 2, 1) := by decide +kernel
theorem dX9_placesOf_26 : decode cX9_placesOf 26 = .ok (.imul, 1) := by decide +kernel
theorem dX9_placesOf_27 : decode cX9_placesOf 27 = .ok (.iload_n 3, 1) := by decide +kernel
theorem dX9_placesOf_28 : decode cX9_placesOf 28 = .ok (.iadd, 1) := by decide +kernel
theorem dX9_placesOf_29 : decode cX9_placesOf 29 = .ok (.ior, 1) := by decide +kernel
theorem dX9_placesOf_30 : decode cX9_placesOf 30 = .ok (.istore_n 1, 1) := by decide +kernel
theorem dX9_placesOf_31 : decode cX9_placesOf 31 = .ok (.iinc 2 1, 3) := by decide +kernel
theorem dX9_placesOf_34 : decode cX9_placesOf 34 = .ok (.goto (-30), 3) := by decide +kernel
theorem dX9_placesOf_37 : decode cX9_placesOf 37 = .ok (.iload_n 1, 1) := by decide +kernel
theorem dX9_placesOf_38 : decode cX9_placesOf 38 = .ok (.ireturn, 1) := by decide +kernel
theorem dX9_greatestDegree_0 : decode cX9_greatestDegree 0 = .ok (.iconst 0, 1) := by decide +kernel
theorem dX9_greatestDegree_1 : decode cX9_greatestDegree 1 = .ok (.istore_n 1, 1) := by decide +kernel
theorem dX9_greatestDegree_2 : decode cX9_greatestDegree 2 = .ok (.iconst 0, 1) := by decide +kernel
theorem dX9_greatestDegree_3 : decode cX9_greatestDegree 3 = .ok (.istore_n 2, 1) := by decide +kernel
theorem dX9_greatestDegree_4 : decode cX9_greatestDegree 4 = .ok (.iload_n 2, 1) := by decide +kernel
theorem dX9_greatestDegree_5 : decode cX9_greatestDegree 5 = .ok (.aload_n 0, 1) := by decide +kernel
theorem dX9_greatestDegree_6 : decode cX9_greatestDegree 6 = .ok (.getfield 9, 3) := by decide +kernel
theorem dX9_greatestDegree_9 : decode cX9_greatestDegree 9 = .ok (.if_icmp .ge 47, 3) := by decide +kernel
theorem dX9_greatestDegree_12 : decode cX9_greatestDegree 12 = .ok (.iconst 0, 1) := by decide +kernel
theorem dX9_greatestDegree_13 : decode cX9_greatestDegree 13 = .ok (.istore_n 3, 1) := by decide +kernel
theorem dX9_greatestDegree_14 : decode cX9_greatestDegree 14 = .ok (.iconst 0, 1) := by decide +kernel
theorem dX9_greatestDegree_15 : decode cX9_greatestDegree 15 = .ok (.istore 4, 2) := by decide +kernel
theorem dX9_greatestDegree_17 : decode cX9_greatestDegree 17 = .ok (.iload 4, 2) := by decide +kernel
theorem dX9_greatestDegree_19 : decode cX9_greatestDegree 19 = .ok (.bipush 12, 2) := by decide +kernel
theorem dX9_greatestDegree_21 : decode cX9_greatestDegree 21 = .ok (.if_icmp .ge 23, 3) := by decide +kernel
theorem dX9_greatestDegree_24 : decode cX9_greatestDegree 24 = .ok (.iload_n 3, 1) := by decide +kernel
theorem dX9_greatestDegree_25 : decode cX9_greatestDegree 25 = .ok (.aload_n 0, 1) := by decide +kernel
theorem dX9_greatestDegree_26 : decode cX9_greatestDegree 26 = .ok (.getfield 15, 3) := by decide +kernel
theorem dX9_greatestDegree_29 : decode cX9_greatestDegree 29 = .ok (.iload_n 2, 1) := by decide +kernel
theorem dX9_greatestDegree_30 : decode cX9_greatestDegree 30 = .ok (.iaload, 1) := by decide +kernel
theorem dX9_greatestDegree_31 : decode cX9_greatestDegree 31 = .ok (.iload 4, 2) := by decide +kernel
theorem dX9_greatestDegree_33 : decode cX9_greatestDegree 33 = .ok (.invokestatic 34, 3) := by decide +kernel
theorem dX9_greatestDegree_36 : decode cX9_greatestDegree 36 = .ok (.iadd, 1) := by decide +kernel
theorem dX9_greatestDegree_37 : decode cX9_greatestDegree 37 = .ok (.istore_n 3, 1) := by decide +kernel
theorem dX9_greatestDegree_38 : decode cX9_greatestDegree 38 = .ok (.iinc 4 1, 3) := by decide +kernel
theorem dX9_greatestDegree_41 : decode cX9_greatestDegree 41 = .ok (.goto (-24), 3) := by decide +kernel
theorem dX9_greatestDegree_44 : decode cX9_greatestDegree 44 = .ok (.iload_n 1, 1) := by decide +kernel
theorem dX9_greatestDegree_45 : decode cX9_greatestDegree 45 = .ok (.iload_n 3, 1) := by decide +kernel
theorem dX9_greatestDegree_46 : decode cX9_greatestDegree 46 = .ok (.invokestatic 38, 3) := by decide +kernel
theorem dX9_greatestDegree_49 : decode cX9_greatestDegree 49 = .ok (.istore_n 1, 1) := by decide +kernel
theorem dX9_greatestDegree_50 : decode cX9_greatestDegree 50 = .ok (.iinc 2 1, 3) := by decide +kernel
theorem dX9_greatestDegree_53 : decode cX9_greatestDegree 53 = .ok (.goto (-49), 3) := by decide +kernel
theorem dX9_greatestDegree_56 : decode cX9_greatestDegree 56 = .ok (.iload_n 1, 1) := by decide +kernel
theorem dX9_greatestDegree_57 : decode cX9_greatestDegree 57 = .ok (.ireturn, 1) := by decide +kernel
theorem dX9_greatestWeight_0 : decode cX9_greatestWeight 0 = .ok (.iconst 0, 1) := by decide +kernel
theorem dX9_greatestWeight_1 : decode cX9_greatestWeight 1 = .ok (.istore_n 2, 1) := by decide +kernel
theorem dX9_greatestWeight_2 : decode cX9_greatestWeight 2 = .ok (.iconst 0, 1) := by decide +kernel
theorem dX9_greatestWeight_3 : decode cX9_greatestWeight 3 = .ok (.istore_n 3, 1) := by decide +kernel
theorem dX9_greatestWeight_4 : decode cX9_greatestWeight 4 = .ok (.iload_n 3, 1) := by decide +kernel
theorem dX9_greatestWeight_5 : decode cX9_greatestWeight 5 = .ok (.aload_n 0, 1) := by decide +kernel
theorem dX9_greatestWeight_6 : decode cX9_greatestWeight 6 = .ok (.getfield 9, 3) := by decide +kernel
theorem dX9_greatestWeight_9 : decode cX9_greatestWeight 9 = .ok (.if_icmp .ge 62, 3) := by decide +kernel
theorem dX9_greatestWeight_12 : decode cX9_greatestWeight 12 = .ok (.iconst 0, 1) := by decide +kernel
theorem dX9_greatestWeight_13 : decode cX9_greatestWeight 13 = .ok (.istore 4, 2) := by decide +kernel
theorem dX9_greatestWeight_15 : decode cX9_greatestWeight 15 = .ok (.iconst 0, 1) := by decide +kernel
theorem dX9_greatestWeight_16 : decode cX9_greatestWeight 16 = .ok (.istore 5, 2) := by decide +kernel
theorem dX9_greatestWeight_18 : decode cX9_greatestWeight 18 = .ok (.iload 5, 2) := by decide +kernel
theorem dX9_greatestWeight_20 : decode cX9_greatestWeight 20 = .ok (.bipush 12, 2) := by decide +kernel
theorem dX9_greatestWeight_22 : decode cX9_greatestWeight 22 = .ok (.if_icmp .ge 36, 3) := by decide +kernel
theorem dX9_greatestWeight_25 : decode cX9_greatestWeight 25 = .ok (.iload 4, 2) := by decide +kernel
theorem dX9_greatestWeight_27 : decode cX9_greatestWeight 27 = .ok (.aload_n 0, 1) := by decide +kernel
theorem dX9_greatestWeight_28 : decode cX9_greatestWeight 28 = .ok (.getfield 15, 3) := by decide +kernel
theorem dX9_greatestWeight_31 : decode cX9_greatestWeight 31 = .ok (.iload_n 3, 1) := by decide +kernel
theorem dX9_greatestWeight_32 : decode cX9_greatestWeight 32 = .ok (.iaload, 1) := by decide +kernel
theorem dX9_greatestWeight_33 : decode cX9_greatestWeight 33 = .ok (.iload 5, 2) := by decide +kernel
theorem dX9_greatestWeight_35 : decode cX9_greatestWeight 35 = .ok (.invokestatic 34, 3) := by decide +kernel
theorem dX9_greatestWeight_38 : decode cX9_greatestWeight 38 = .ok (.aload_n 1, 1) := by decide +kernel
theorem dX9_greatestWeight_39 : decode cX9_greatestWeight 39 = .ok (.getfield 43, 3) := by decide +kernel
theorem dX9_greatestWeight_42 : decode cX9_greatestWeight 42 = .ok (.iload 5, 2) := by decide +kernel
theorem dX9_greatestWeight_44 : decode cX9_greatestWeight 44 = .ok (.bipush 6, 2) := by decide +kernel
theorem dX9_greatestWeight_46 : decode cX9_greatestWeight 46 = .ok (.irem, 1) := by decide +kernel
theorem dX9_greatestWeight_47 : decode cX9_greatestWeight 47 = .ok (.iaload, 1) := by decide +kernel
theorem dX9_greatestWeight_48 : decode cX9_greatestWeight 48 = .ok (.imul, 1) := by decide +kernel
theorem dX9_greatestWeight_49 : decode cX9_greatestWeight 49 = .ok (.iadd, 1) := by decide +kernel
theorem dX9_greatestWeight_50 : decode cX9_greatestWeight 50 = .ok (.istore 4, 2) := by decide +kernel
theorem dX9_greatestWeight_52 : decode cX9_greatestWeight 52 = .ok (.iinc 5 1, 3) := by decide +kernel
theorem dX9_greatestWeight_55 : decode cX9_greatestWeight 55 = .ok (.goto (-37), 3) := by decide +kernel
theorem dX9_greatestWeight_58 : decode cX9_greatestWeight 58 = .ok (.iload_n 2, 1) := by decide +kernel
theorem dX9_greatestWeight_59 : decode cX9_greatestWeight 59 = .ok (.iload 4, 2) := by decide +kernel
theorem dX9_greatestWeight_61 : decode cX9_greatestWeight 61 = .ok (.invokestatic 38, 3) := by decide +kernel
theorem dX9_greatestWeight_64 : decode cX9_greatestWeight 64 = .ok (.istore_n 2, 1) := by decide +kernel
theorem dX9_greatestWeight_65 : decode cX9_greatestWeight 65 = .ok (.iinc 3 1, 3) := by decide +kernel
theorem dX9_greatestWeight_68 : decode cX9_greatestWeight 68 = .ok (.goto (-64), 3) := by decide +kernel
theorem dX9_greatestWeight_71 : decode cX9_greatestWeight 71 = .ok (.iload_n 2, 1) := by decide +kernel
theorem dX9_greatestWeight_72 : decode cX9_greatestWeight 72 = .ok (.ireturn, 1) := by decide +kernel
theorem dX9_termsInBothRows_0 : decode cX9_termsInBothRows 0 = .ok (.iconst 0, 1) := by decide +kernel
theorem dX9_termsInBothRows_1 : decode cX9_termsInBothRows 1 = .ok (.istore_n 1, 1) := by decide +kernel
theorem dX9_termsInBothRows_2 : decode cX9_termsInBothRows 2 = .ok (.iconst 0, 1) := by decide +kernel
theorem dX9_termsInBothRows_3 : decode cX9_termsInBothRows 3 = .ok (.istore_n 2, 1) := by decide +kernel
theorem dX9_termsInBothRows_4 : decode cX9_termsInBothRows 4 = .ok (.iload_n 2, 1) := by decide +kernel
theorem dX9_termsInBothRows_5 : decode cX9_termsInBothRows 5 = .ok (.aload_n 0, 1) := by decide +kernel
theorem dX9_termsInBothRows_6 : decode cX9_termsInBothRows 6 = .ok (.getfield 9, 3) := by decide +kernel
theorem dX9_termsInBothRows_9 : decode cX9_termsInBothRows 9 = .ok (.if_icmp .ge 29, 3) := by decide +kernel
theorem dX9_termsInBothRows_12 : decode cX9_termsInBothRows 12 = .ok (.iload_n 1, 1) := by decide +kernel
theorem dX9_termsInBothRows_13 : decode cX9_termsInBothRows 13 = .ok (.aload_n 0, 1) := by decide +kernel
theorem dX9_termsInBothRows_14 : decode cX9_termsInBothRows 14 = .ok (.getfield 15, 3) := by decide +kernel
theorem dX9_termsInBothRows_17 : decode cX9_termsInBothRows 17 = .ok (.iload_n 2, 1) := by decide +kernel
theorem dX9_termsInBothRows_18 : decode cX9_termsInBothRows 18 = .ok (.iaload, 1) := by decide +kernel
theorem dX9_termsInBothRows_19 : decode cX9_termsInBothRows 19 = .ok (.invokestatic 48, 3) := by decide +kernel
theorem dX9_termsInBothRows_22 : decode cX9_termsInBothRows 22 = .ok (.ifCond .eq 7, 3) := by decide +kernel
theorem dX9_termsInBothRows_25 : decode cX9_termsInBothRows 25 = .ok (.iconst 1, 1) := by decide +kernel
theorem dX9_termsInBothRows_26 : decode cX9_termsInBothRows 26 = .ok (.goto 4, 3) := by decide +kernel
theorem dX9_termsInBothRows_29 : decode cX9_termsInBothRows 29 = .ok (.iconst 0, 1) := by decide +kernel
theorem dX9_termsInBothRows_30 : decode cX9_termsInBothRows 30 = .ok (.iadd, 1) := by decide +kernel
theorem dX9_termsInBothRows_31 : decode cX9_termsInBothRows 31 = .ok (.istore_n 1, 1) := by decide +kernel
theorem dX9_termsInBothRows_32 : decode cX9_termsInBothRows 32 = .ok (.iinc 2 1, 3) := by decide +kernel
theorem dX9_termsInBothRows_35 : decode cX9_termsInBothRows 35 = .ok (.goto (-31), 3) := by decide +kernel
theorem dX9_termsInBothRows_38 : decode cX9_termsInBothRows 38 = .ok (.iload_n 1, 1) := by decide +kernel
theorem dX9_termsInBothRows_39 : decode cX9_termsInBothRows 39 = .ok (.ireturn, 1) := by decide +kernel
theorem dX9_hasBoth_0 : decode cX9_hasBoth 0 = .ok (.iconst 0, 1) := by decide +kernel
theorem dX9_hasBoth_1 : decode cX9_hasBoth 1 = .ok (.istore_n 1, 1) := by decide +kernel
theorem dX9_hasBoth_2 : decode cX9_hasBoth 2 = .ok (.iload_n 1, 1) := by decide +kernel
theorem dX9_hasBoth_3 : decode cX9_hasBoth 3 = .ok (.bipush 6, 2) := by decide +kernel
theorem dX9_hasBoth_5 : decode cX9_hasBoth 5 = .ok (.if_icmp .ge 30, 3) := by decide +kernel
theorem dX9_hasBoth_8 : decode cX9_hasBoth 8 = .ok (.iload_n 0, 1) := by decide +kernel
theorem dX9_hasBoth_9 : decode cX9_hasBoth 9 = .ok (.iload_n 1, 1) := by decide +kernel
theorem dX9_hasBoth_10 : decode cX9_hasBoth 10 = .ok (.invokestatic 34, 3) := by decide +kernel
theorem dX9_hasBoth_13 : decode cX9_hasBoth 13 = .ok (.ifCond .le 16, 3) := by decide +kernel
theorem dX9_hasBoth_16 : decode cX9_hasBoth 16 = .ok (.iload_n 0, 1) := by decide +kernel
theorem dX9_hasBoth_17 : decode cX9_hasBoth 17 = .ok (.bipush 6, 2) := by decide +kernel
theorem dX9_hasBoth_19 : decode cX9_hasBoth 19 = .ok (.iload_n 1, 1) := by decide +kernel
theorem dX9_hasBoth_20 : decode cX9_hasBoth 20 = .ok (.iadd, 1) := by decide +kernel
theorem dX9_hasBoth_21 : decode cX9_hasBoth 21 = .ok (.invokestatic 34, 3) := by decide +kernel
theorem dX9_hasBoth_24 : decode cX9_hasBoth 24 = .ok (.ifCond .le 5, 3) := by decide +kernel
theorem dX9_hasBoth_27 : decode cX9_hasBoth 27 = .ok (.iconst 1, 1) := by decide +kernel
theorem dX9_hasBoth_28 : decode cX9_hasBoth 28 = .ok (.ireturn, 1) := by decide +kernel
theorem dX9_hasBoth_29 : decode cX9_hasBoth 29 = .ok (.iinc 1 1, 3) := by decide +kernel
theorem dX9_hasBoth_32 : decode cX9_hasBoth 32 = .ok (.goto (-30), 3) := by decide +kernel
theorem dX9_hasBoth_35 : decode cX9_hasBoth 35 = .ok (.iconst 0, 1) := by decide +kernel
theorem dX9_hasBoth_36 : decode cX9_hasBoth 36 = .ok (.ireturn, 1) := by decide +kernel
theorem dX9_sumOfNumbers_0 : decode cX9_sumOfNumbers 0 = .ok (.lconst 0, 1) := by decide +kernel
theorem dX9_sumOfNumbers_1 : decode cX9_sumOfNumbers 1 = .ok (.lstore_n 1, 1) := by decide +kernel
theorem dX9_sumOfNumbers_2 : decode cX9_sumOfNumbers 2 = .ok (.iconst 0, 1) := by decide +kernel
theorem dX9_sumOfNumbers_3 : decode cX9_sumOfNumbers 3 = .ok (.istore_n 3, 1) := by decide +kernel
theorem dX9_sumOfNumbers_4 : decode cX9_sumOfNumbers 4 = .ok (.iload_n 3, 1) := by decide +kernel
theorem dX9_sumOfNumbers_5 : decode cX9_sumOfNumbers 5 = .ok (.aload_n 0, 1) := by decide +kernel
theorem dX9_sumOfNumbers_6 : decode cX9_sumOfNumbers 6 = .ok (.getfield 9, 3) := by decide +kernel
theorem dX9_sumOfNumbers_9 : decode cX9_sumOfNumbers 9 = .ok (.if_icmp .ge 18, 3) := by decide +kernel
theorem dX9_sumOfNumbers_12 : decode cX9_sumOfNumbers 12 = .ok (.lload_n 1, 1) := by decide +kernel
theorem dX9_sumOfNumbers_13 : decode cX9_sumOfNumbers 13 = .ok (.aload_n 0, 1) := by decide +kernel
theorem dX9_sumOfNumbers_14 : decode cX9_sumOfNumbers 14 = .ok (.getfield 19, 3) := by decide +kernel
theorem dX9_sumOfNumbers_17 : decode cX9_sumOfNumbers 17 = .ok (.iload_n 3, 1) := by decide +kernel
theorem dX9_sumOfNumbers_18 : decode cX9_sumOfNumbers 18 = .ok (.laload, 1) := by decide +kernel
theorem dX9_sumOfNumbers_19 : decode cX9_sumOfNumbers 19 = .ok (.ladd, 1) := by decide +kernel
theorem dX9_sumOfNumbers_20 : decode cX9_sumOfNumbers 20 = .ok (.lstore_n 1, 1) := by decide +kernel
theorem dX9_sumOfNumbers_21 : decode cX9_sumOfNumbers 21 = .ok (.iinc 3 1, 3) := by decide +kernel
theorem dX9_sumOfNumbers_24 : decode cX9_sumOfNumbers 24 = .ok (.goto (-20), 3) := by decide +kernel
theorem dX9_sumOfNumbers_27 : decode cX9_sumOfNumbers 27 = .ok (.lload_n 1, 1) := by decide +kernel
theorem dX9_sumOfNumbers_28 : decode cX9_sumOfNumbers 28 = .ok (.lreturn, 1) := by decide +kernel
theorem dX10_init_0 : decode cX10_init 0 = .ok (.aload_n 0, 1) := by decide +kernel
theorem dX10_init_1 : decode cX10_init 1 = .ok (.invokespecial 3, 3) := by decide +kernel
theorem dX10_init_4 : decode cX10_init 4 = .ok (.aload_n 0, 1) := by decide +kernel
theorem dX10_init_5 : decode cX10_init 5 = .ok (.new 9, 3) := by decide +kernel
theorem dX10_init_8 : decode cX10_init 8 = .ok (.dup, 1) := by decide +kernel
theorem dX10_init_9 : decode cX10_init 9 = .ok (.invokespecial 11, 3) := by decide +kernel
theorem dX10_init_12 : decode cX10_init 12 = .ok (.putfield 12, 3) := by decide +kernel
theorem dX10_init_15 : decode cX10_init 15 = .ok (.aload_n 0, 1) := by decide +kernel
theorem dX10_init_16 : decode cX10_init 16 = .ok (.new 9, 3) := by decide +kernel
theorem dX10_init_19 : decode cX10_init 19 = .ok (.dup, 1) := by decide +kernel
theorem dX10_init_20 : decode cX10_init 20 = .ok (.invokespecial 11, 3) := by decide +kernel
theorem dX10_init_23 : decode cX10_init 23 = .ok (.putfield 16, 3) := by decide +kernel
theorem dX10_init_26 : decode cX10_init 26 = .ok (.aload_n 0, 1) := by decide +kernel
theorem dX10_init_27 : decode cX10_init 27 = .ok (.iconst 0, 1) := by decide +kernel
theorem dX10_init_28 : decode cX10_init 28 = .ok (.putfield 19, 3) := by decide +kernel
theorem dX10_init_31 : decode cX10_init 31 = .ok (.aload_n 0, 1) := by decide +kernel
theorem dX10_init_32 : decode cX10_init 32 = .ok (.bipush 8, 2) := by decide +kernel
theorem dX10_init_34 : decode cX10_init 34 = .ok (.anewarray 9, 3) := by decide +kernel
theorem dX10_init_37 : decode cX10_init 37 = .ok (.putfield 23, 3) := by decide +kernel
theorem dX10_init_40 : decode cX10_init 40 = .ok (.aload_n 0, 1) := by decide +kernel
theorem dX10_init_41 : decode cX10_init 41 = .ok (.iconst 0, 1) := by decide +kernel
theorem dX10_init_42 : decode cX10_init 42 = .ok (.putfield 27, 3) := by decide +kernel
theorem dX10_init_45 : decode cX10_init 45 = .ok (.aload_n 0, 1) := by decide +kernel
theorem dX10_init_46 : decode cX10_init 46 = .ok (.iconst 0, 1) := by decide +kernel
theorem dX10_init_47 : decode cX10_init 47 = .ok (.putfield 31, 3) := by decide +kernel
theorem dX10_init_50 : decode cX10_init 50 = .ok (.aload_n 0, 1) := by decide +kernel
theorem dX10_init_51 : decode cX10_init 51 = .ok (.sipush 200, 3) := by decide +kernel
theorem dX10_init_54 : decode cX10_init 54 = .ok (.newarray .int, 2) := by decide +kernel
theorem dX10_init_56 : decode cX10_init 56 = .ok (.putfield 34, 3) := by decide +kernel
theorem dX10_init_59 : decode cX10_init 59 = .ok (.aload_n 0, 1) := by decide +kernel
theorem dX10_init_60 : decode cX10_init 60 = .ok (.iconst 0, 1) := by decide +kernel
theorem dX10_init_61 : decode cX10_init 61 = .ok (.putfield 38, 3) := by decide +kernel
theorem dX10_init_64 : decode cX10_init 64 = .ok (.aload_n 0, 1) := by decide +kernel
theorem dX10_init_65 : decode cX10_init 65 = .ok (.new 41, 3) := by decide +kernel
theorem dX10_init_68 : decode cX10_init 68 = .ok (.dup, 1) := by decide +kernel
theorem dX10_init_69 : decode cX10_init 69 = .ok (.invokespecial 43, 3) := by decide +kernel
theorem dX10_init_72 : decode cX10_init 72 = .ok (.putfield 44, 3) := by decide +kernel
theorem dX10_init_75 : decode cX10_init 75 = .ok (.aload_n 0, 1) := by decide +kernel
theorem dX10_init_76 : decode cX10_init 76 = .ok (.new 48, 3) := by decide +kernel
theorem dX10_init_79 : decode cX10_init 79 = .ok (.dup, 1) := by decide +kernel
theorem dX10_init_80 : decode cX10_init 80 = .ok (.aload_n 0, 1) := by decide +kernel
theorem dX10_init_81 : decode cX10_init 81 = .ok (.getfield 44, 3) := by decide +kernel
theorem dX10_init_84 : decode cX10_init 84 = .ok (.invokespecial 50, 3) := by decide +kernel
theorem dX10_init_87 : decode cX10_init 87 = .ok (.putfield 53, 3) := by decide +kernel
theorem dX10_init_90 : decode cX10_init 90 = .ok (.aload_n 0, 1) := by decide +kernel
theorem dX10_init_91 : decode cX10_init 91 = .ok (.new 57, 3) := by decide +kernel
theorem dX10_init_94 : decode cX10_init 94 = .ok (.dup, 1) := by decide +kernel
theorem dX10_init_95 : decode cX10_init 95 = .ok (.aload_n 0, 1) := by decide +kernel
theorem dX10_init_96 : decode cX10_init 96 = .ok (.getfield 53, 3) := by decide +kernel
theorem dX10_init_99 : decode cX10_init 99 = .ok (.invokespecial 59, 3) := by decide +kernel
theorem dX10_init_102 : decode cX10_init 102 = .ok (.putfield 62, 3) := by decide +kernel
theorem dX10_init_105 : decode cX10_init 105 = .ok (.aload_n 0, 1) := by decide +kernel
theorem dX10_init_106 : decode cX10_init 106 = .ok (.new 66, 3) := by decide +kernel
theorem dX10_init_109 : decode cX10_init 109 = .ok (.dup, 1) := by decide +kernel
theorem dX10_init_110 : decode cX10_init 110 = .ok (.aload_n 0, 1) := by decide +kernel
theorem dX10_init_111 : decode cX10_init 111 = .ok (.getfield 53, 3) := by decide +kernel
theorem dX10_init_114 : decode cX10_init 114 = .ok (.invokespecial 68, 3) := by decide +kernel
theorem dX10_init_117 : decode cX10_init 117 = .ok (.putfield 69, 3) := by decide +kernel
theorem dX10_init_120 : decode cX10_init 120 = .ok (.aload_n 0, 1) := by decide +kernel
theorem dX10_init_121 : decode cX10_init 121 = .ok (.new 73, 3) := by decide +kernel
theorem dX10_init_124 : decode cX10_init 124 = .ok (.dup, 1) := by decide +kernel
theorem dX10_init_125 : decode cX10_init 125 = .ok (.aload_n 0, 1) := by decide +kernel
theorem dX10_init_126 : decode cX10_init 126 = .ok (.getfield 53, 3) := by decide +kernel
theorem dX10_init_129 : decode cX10_init 129 = .ok (.aload_n 0, 1) := by decide +kernel
theorem dX10_init_130 : decode cX10_init 130 = .ok (.getfield 62, 3) := by decide +kernel
theorem dX10_init_133 : decode cX10_init 133 = .ok (.invokespecial 75, 3) := by decide +kernel
theorem dX10_init_136 : decode cX10_init 136 = .ok (.putfield 78, 3) := by decide +kernel
theorem dX10_init_139 : decode cX10_init 139 = .ok (.aload_n 0, 1) := by decide +kernel
theorem dX10_init_140 : decode cX10_init 140 = .ok (.new 82, 3) := by decide +kernel
theorem dX10_init_143 : decode cX10_init 143 = .ok (.dup, 1) := by decide +kernel
theorem dX10_init_144 : decode cX10_init 144 = .ok (.invokespecial 84, 3) := by decide +kernel
theorem dX10_init_147 : decode cX10_init 147 = .ok (.putfield 85, 3) := by decide +kernel
theorem dX10_init_150 : decode cX10_init 150 = .ok (.aload_n 0, 1) := by decide +kernel
theorem dX10_init_151 : decode cX10_init 151 = .ok (.new 89, 3) := by decide +kernel
theorem dX10_init_154 : decode cX10_init 154 = .ok (.dup, 1) := by decide +kernel
theorem dX10_init_155 : decode cX10_init 155 = .ok (.aload_n 0, 1) := by decide +kernel
theorem dX10_init_156 : decode cX10_init 156 = .ok (.getfield 12, 3) := by decide +kernel
theorem dX10_init_159 : decode cX10_init 159 = .ok (.aload_n 0, 1) := by decide +kernel
theorem dX10_init_160 : decode cX10_init 160 = .ok (.getfield 62, 3) := by decide +kernel
theorem dX10_init_163 : decode cX10_init 163 = .ok (.invokespecial 91, 3) := by decide +kernel
theorem dX10_init_166 : decode cX10_init 166 = .ok (.putfield 94, 3) := by decide +kernel
theorem dX10_init_169 : decode cX10_init 169 = .ok (.aload_n 0, 1) := by decide +kernel
theorem dX10_init_170 : decode cX10_init 170 = .ok (.bipush 6, 2) := by decide +kernel
theorem dX10_init_172 : decode cX10_init 172 = .ok (.newarray .long, 2) := by decide +kernel
theorem dX10_init_174 : decode cX10_init 174 = .ok (.putfield 98, 3) := by decide +kernel
theorem dX10_init_177 : decode cX10_init 177 = .ok (.aload_n 0, 1) := by decide +kernel
theorem dX10_init_178 : decode cX10_init 178 = .ok (.bipush 6, 2) := by decide +kernel
theorem dX10_init_180 : decode cX10_init 180 = .ok (.newarray .long, 2) := by decide +kernel
theorem dX10_init_182 : decode cX10_init 182 = .ok (.putfield 102, 3) := by decide +kernel
theorem dX10_init_185 : decode cX10_init 185 = .ok (.iconst 0, 1) := by decide +kernel
theorem dX10_init_186 : decode cX10_init 186 = .ok (.istore_n 1, 1) := by decide +kernel
theorem dX10_init_187 : decode cX10_init 187 = .ok (.iload_n 1, 1) := by decide +kernel
theorem dX10_init_188 : decode cX10_init 188 = .ok (.bipush 8, 2) := by decide +kernel
theorem dX10_init_190 : decode cX10_init 190 = .ok (.if_icmp .ge 22, 3) := by decide +kernel
theorem dX10_init_193 : decode cX10_init 193 = .ok (.aload_n 0, 1) := by decide +kernel
theorem dX10_init_194 : decode cX10_init 194 = .ok (.getfield 23, 3) := by decide +kernel
theorem dX10_init_197 : decode cX10_init 197 = .ok (.iload_n 1, 1) := by decide +kernel
theorem dX10_init_198 : decode cX10_init 198 = .ok (.new 9, 3) := by decide +kernel
theorem dX10_init_201 : decode cX10_init 201 = .ok (.dup, 1) := by decide +kernel
theorem dX10_init_202 : decode cX10_init 202 = .ok (.invokespecial 11, 3) := by decide +kernel
theorem dX10_init_205 : decode cX10_init 205 = .ok (.aastore, 1) := by decide +kernel
theorem dX10_init_206 : decode cX10_init 206 = .ok (.iinc 1 1, 3) := by decide +kernel
theorem dX10_init_209 : decode cX10_init 209 = .ok (.goto (-22), 3) := by decide +kernel
theorem dX10_init_212 : decode cX10_init 212 = .ok (.aload_n 0, 1) := by decide +kernel
theorem dX10_init_213 : decode cX10_init 213 = .ok (.getfield 12, 3) := by decide +kernel
theorem dX10_init_216 : decode cX10_init 216 = .ok (.getfield 105, 3) := by decide +kernel
theorem dX10_init_219 : decode cX10_init 219 = .ok (.iconst 0, 1) := by decide +kernel
theorem dX10_init_220 : decode cX10_init 220 = .ok (.invokevirtual 109, 3) := by decide +kernel
theorem dX10_init_223 : decode cX10_init 223 = .ok (.aload_n 0, 1) := by decide +kernel
theorem dX10_init_224 : decode cX10_init 224 = .ok (.getfield 53, 3) := by decide +kernel
theorem dX10_init_227 : decode cX10_init 227 = .ok (.aload_n 0, 1) := by decide +kernel
theorem dX10_init_228 : decode cX10_init 228 = .ok (.getfield 12, 3) := by decide +kernel
theorem dX10_init_231 : decode cX10_init 231 = .ok (.getfield 105, 3) := by decide +kernel
theorem dX10_init_234 : decode cX10_init 234 = .ok (.invokevirtual 115, 3) := by decide +kernel
theorem dX10_init_237 : decode cX10_init 237 = .ok (.return_, 1) := by decide +kernel
theorem dX10_group_0 : decode cX10_group 0 = .ok (.iload_n 1, 1) := by decide +kernel
theorem dX10_group_1 : decode cX10_group 1 = .ok (.iload_n 2, 1) := by decide +kernel
theorem dX10_group_2 : decode cX10_group 2 = .ok (.invokestatic 119, 3) := by decide +kernel
theorem dX10_group_5 : decode cX10_group 5 = .ok (.ifCond .ne 5, 3) := by decide +kernel
theorem dX10_group_8 : decode cX10_group 8 = .ok (.iconst 0, 1) := by decide +kernel
theorem dX10_group_9 : decode cX10_group 9 = .ok (.ireturn, 1) := by decide +kernel
theorem dX10_group_10 : decode cX10_group 10 = .ok (.aload_n 0, 1) := by decide +kernel
theorem dX10_group_11 : decode cX10_group 11 = .ok (.invokevirtual 123, 3) := by decide +kernel
theorem dX10_group_14 : decode cX10_group 14 = .ok (.aload_n 0, 1) := by decide +kernel
theorem dX10_group_15 : decode cX10_group 15 = .ok (.getfield 12, 3) := by decide +kernel
theorem dX10_group_18 : decode cX10_group 18 = .ok (.getfield 105, 3) := by decide +kernel
theorem dX10_group_21 : decode cX10_group 21 = .ok (.iload_n 1, 1) := by decide +kernel
theorem dX10_group_22 : decode cX10_group 22 = .ok (.iload_n 2, 1) := by decide +kernel
theorem dX10_group_23 : decode cX10_group 23 = .ok (.invokevirtual 126, 3) := by decide +kernel
theorem dX10_group_26 : decode cX10_group 26 = .ok (.aload_n 0, 1) := by decide +kernel
theorem dX10_group_27 : decode cX10_group 27 = .ok (.getfield 53, 3) := by decide +kernel
theorem dX10_group_30 : decode cX10_group 30 = .ok (.aload_n 0, 1) := by decide +kernel
theorem dX10_group_31 : decode cX10_group 31 = .ok (.getfield 12, 3) := by decide +kernel
theorem dX10_group_34 : decode cX10_group 34 = .ok (.getfield 105, 3) := by decide +kernel
theorem dX10_group_37 : decode cX10_group 37 = .ok (.invokevirtual 115, 3) := by decide +kernel
theorem dX10_group_40 : decode cX10_group 40 = .ok (.iconst 1, 1) := by decide +kernel
theorem dX10_group_41 : decode cX10_group 41 = .ok (.ireturn, 1) := by decide +kernel
theorem dX10_tail_0 : decode cX10_tail 0 = .ok (.aload_n 0, 1) := by decide +kernel
theorem dX10_tail_1 : decode cX10_tail 1 = .ok (.getfield 12, 3) := by decide +kernel
theorem dX10_tail_4 : decode cX10_tail 4 = .ok (.getfield 105, 3) := by decide +kernel
theorem dX10_tail_7 : decode cX10_tail 7 = .ok (.iload_n 1, 1) := by decide +kernel
theorem dX10_tail_8 : decode cX10_tail 8 = .ok (.iconst 1, 1) := by decide +kernel
theorem dX10_tail_9 : decode cX10_tail 9 = .ok (.isub, 1) := by decide +kernel
theorem dX10_tail_10 : decode cX10_tail 10 = .ok (.iload_n 2, 1) := by decide +kernel
theorem dX10_tail_11 : decode cX10_tail 11 = .ok (.iconst 1, 1) := by decide +kernel
theorem dX10_tail_12 : decode cX10_tail 12 = .ok (.isub, 1) := by decide +kernel
theorem dX10_tail_13 : decode cX10_tail 13 = .ok (.iload_n 3, 1) := by decide +kernel
theorem dX10_tail_14 : decode cX10_tail 14 = .ok (.iconst 1, 1) := by decide +kernel
theorem dX10_tail_15 : decode cX10_tail 15 = .ok (.isub, 1) := by decide +kernel
theorem dX10_tail_16 : decode cX10_tail 16 = .ok (.iload 4, 2) := by decide +kernel
theorem dX10_tail_18 : decode cX10_tail 18 = .ok (.invokevirtual 130, 3) := by decide +kernel
theorem dX10_tail_21 : decode cX10_tail 21 = .ok (.ifCond .ne 5, 3) := by decide +kernel
theorem dX10_tail_24 : decode cX10_tail 24 = .ok (.iconst 0, 1) := by decide +kernel
theorem dX10_tail_25 : decode cX10_tail 25 = .ok (.ireturn, 1) := by decide +kernel
theorem dX10_tail_26 : decode cX10_tail 26 = .ok (.aload_n 0, 1) := by decide +kernel
theorem dX10_tail_27 : decode cX10_tail 27 = .ok (.invokevirtual 123, 3) := by decide +kernel
theorem dX10_tail_30 : decode cX10_tail 30 = .ok (.aload_n 0, 1) := by decide +kernel
theorem dX10_tail_31 : decode cX10_tail 31 = .ok (.getfield 12, 3) := by decide +kernel
theorem dX10_tail_34 : decode cX10_tail 34 = .ok (.getfield 105, 3) := by decide +kernel
theorem dX10_tail_37 : decode cX10_tail 37 = .ok (.iload_n 1, 1) := by decide +kernel
theorem dX10_tail_38 : decode cX10_tail 38 = .ok (.iconst 1, 1) := by decide +kernel
theorem dX10_tail_39 : decode cX10_tail 39 = .ok (.isub, 1) := by decide +kernel
theorem dX10_tail_40 : decode cX10_tail 40 = .ok (.iload_n 2, 1) := by decide +kernel
theorem dX10_tail_41 : decode cX10_tail 41 = .ok (.iconst 1, 1) := by decide +kernel
theorem dX10_tail_42 : decode cX10_tail 42 = .ok (.isub, 1) := by decide +kernel
theorem dX10_tail_43 : decode cX10_tail 43 = .ok (.iload_n 3, 1) := by decide +kernel
theorem dX10_tail_44 : decode cX10_tail 44 = .ok (.iconst 1, 1) := by decide +kernel
theorem dX10_tail_45 : decode cX10_tail 45 = .ok (.isub, 1) := by decide +kernel
theorem dX10_tail_46 : decode cX10_tail 46 = .ok (.iload 4, 2) := by decide +kernel
theorem dX10_tail_48 : decode cX10_tail 48 = .ok (.invokevirtual 134, 3) := by decide +kernel
theorem dX10_tail_51 : decode cX10_tail 51 = .ok (.aload_n 0, 1) := by decide +kernel
theorem dX10_tail_52 : decode cX10_tail 52 = .ok (.getfield 53, 3) := by decide +kernel
theorem dX10_tail_55 : decode cX10_tail 55 = .ok (.aload_n 0, 1) := by decide +kernel
theorem dX10_tail_56 : decode cX10_tail 56 = .ok (.getfield 12, 3) := by decide +kernel
theorem dX10_tail_59 : decode cX10_tail 59 = .ok (.getfield 105, 3) := by decide +kernel
theorem dX10_tail_62 : decode cX10_tail 62 = .ok (.invokevirtual 115, 3) := by decide +kernel
theorem dX10_tail_65 : decode cX10_tail 65 = .ok (.iconst 1, 1) := by decide +kernel
theorem dX10_tail_66 : decode cX10_tail 66 = .ok (.ireturn, 1) := by decide +kernel
theorem dX10_kind_0 : decode cX10_kind 0 = .ok (.iload_n 1, 1) := by decide +kernel
theorem dX10_kind_1 : decode cX10_kind 1 = .ok (.ifCond .lt 11, 3) := by decide +kernel
theorem dX10_kind_4 : decode cX10_kind 4 = .ok (.iload_n 1, 1) := by decide +kernel
theorem dX10_kind_5 : decode cX10_kind 5 = .ok (.getstatic 138, 3) := by decide +kernel
theorem dX10_kind_8 : decode cX10_kind 8 = .ok (.arraylength, 1) := by decide +kernel
theorem dX10_kind_9 : decode cX10_kind 9 = .ok (.if_icmp .lt 5, 3) := by decide +kernel
theorem dX10_kind_12 : decode cX10_kind 12 = .ok (.iconst 0, 1) := by decide +kernel
theorem dX10_kind_13 : decode cX10_kind 13 = .ok (.ireturn, 1) := by decide +kernel
theorem dX10_kind_14 : decode cX10_kind 14 = .ok (.aload_n 0, 1) := by decide +kernel
theorem dX10_kind_15 : decode cX10_kind 15 = .ok (.invokevirtual 123, 3) := by decide +kernel
theorem dX10_kind_18 : decode cX10_kind 18 = .ok (.aload_n 0, 1) := by decide +kernel
theorem dX10_kind_19 : decode cX10_kind 19 = .ok (.getfield 12, 3) := by decide +kernel
theorem dX10_kind_22 : decode cX10_kind 22 = .ok (.getfield 105, 3) := by decide +kernel
theorem dX10_kind_25 : decode cX10_kind 25 = .ok (.iload_n 1, 1) := by decide +kernel
theorem dX10_kind_26 : decode cX10_kind 26 = .ok (.invokevirtual 109, 3) := by decide +kernel
theorem dX10_kind_29 : decode cX10_kind 29 = .ok (.aload_n 0, 1) := by decide +kernel
theorem dX10_kind_30 : decode cX10_kind 30 = .ok (.getfield 53, 3) := by decide +kernel
theorem dX10_kind_33 : decode cX10_kind 33 = .ok (.aload_n 0, 1) := by decide +kernel
theorem dX10_kind_34 : decode cX10_kind 34 = .ok (.getfield 12, 3) := by decide +kernel
theorem dX10_kind_37 : decode cX10_kind 37 = .ok (.getfield 105, 3) := by decide +kernel
theorem dX10_kind_40 : decode cX10_kind 40 = .ok (.invokevirtual 115, 3) := by decide +kernel
theorem dX10_kind_43 : decode cX10_kind 43 = .ok (.iconst 1, 1) := by decide +kernel
theorem dX10_kind_44 : decode cX10_kind 44 = .ok (.ireturn, 1) := by decide +kernel
theorem dX10_consistent_0 : decode cX10_consistent 0 = .ok (.aload_n 0, 1) := by decide +kernel
theorem dX10_consistent_1 : decode cX10_consistent 1 = .ok (.getfield 53, 3) := by decide +kernel
theorem dX10_consistent_4 : decode cX10_consistent 4 = .ok (.getfield 141, 3) := by decide +kernel
theorem dX10_consistent_7 : decode cX10_consistent 7 = .ok (.invokestatic 144, 3) := by decide +kernel
theorem dX10_consistent_10 : decode cX10_consistent 10 = .ok (.ireturn, 1) := by decide +kernel
theorem dX10_generator_0 : decode cX10_generator 0 = .ok (.aload_n 0, 1) := by decide +kernel
theorem dX10_generator_1 : decode cX10_generator 1 = .ok (.iload_n 1, 1) := by decide +kernel
theorem dX10_generator_2 : decode cX10_generator 2 = .ok (.invokevirtual 148, 3) := by decide +kernel
theorem dX10_generator_5 : decode cX10_generator 5 = .ok (.ifCond .eq 12, 3) := by decide +kernel
theorem dX10_generator_8 : decode cX10_generator 8 = .ok (.iload_n 2, 1) := by decide +kernel
theorem dX10_generator_9 : decode cX10_generator 9 = .ok (.ifCond .lt 8, 3) := by decide +kernel
theorem dX10_generator_12 : decode cX10_generator 12 = .ok (.iload_n 2, 1) := by decide +kernel
theorem dX10_generator_13 : decode cX10_generator 13 = .ok (.iconst 1, 1) := by decide +kernel
theorem dX10_generator_14 : decode cX10_generator 14 = .ok (.if_icmp .le 5, 3) := by decide +kernel
theorem dX10_generator_17 : decode cX10_generator 17 = .ok (.iconst (-1), 1) := by decide +kernel
theorem dX10_generator_18 : decode cX10_generator 18 = .ok (.ireturn, 1) := by decide +kernel
theorem dX10_generator_19 : decode cX10_generator 19 = .ok (.iload_n 2, 1) := by decide +kernel
theorem dX10_generator_20 : decode cX10_generator 20 = .ok (.ifCond .ne 18, 3) := by decide +kernel
theorem dX10_generator_23 : decode cX10_generator 23 = .ok (.aload_n 0, 1) := by decide +kernel
theorem dX10_generator_24 : decode cX10_generator 24 = .ok (.getfield 12, 3) := by decide +kernel
theorem dX10_generator_27 : decode cX10_generator 27 = .ok (.getfield 105, 3) := by decide +kernel
theorem dX10_generator_30 : decode cX10_generator 30 = .ok (.getfield 152, 3) := by decide +kernel
theorem dX10_generator_33 : decode cX10_generator 33 = .ok (.iload_n 1, 1) := by decide +kernel
theorem dX10_generator_34 : decode cX10_generator 34 = .ok (.iconst 1, 1) := by decide +kernel
theorem dX10_generator_35 : decode cX10_generator 35 = .ok (.isub, 1) := by decide +kernel
theorem dX10_generator_36 : decode cX10_generator 36 = .ok (.iaload, 1) := by decide +kernel
theorem dX10_generator_37 : decode cX10_generator 37 = .ok (.ireturn, 1) := by decide +kernel
theorem dX10_generator_38 : decode cX10_generator 38 = .ok (.aload_n 0, 1) := by decide +kernel
theorem dX10_generator_39 : decode cX10_generator 39 = .ok (.getfield 53, 3) := by decide +kernel
theorem dX10_generator_42 : decode cX10_generator 42 = .ok (.getfield 141, 3) := by decide +kernel
theorem dX10_generator_45 : decode cX10_generator 45 = .ok (.ifCond .eq 22, 3) := by decide +kernel
theorem dX10_generator_48 : decode cX10_generator 48 = .ok (.aload_n 0, 1) := by decide +kernel
theorem dX10_generator_49 : decode cX10_generator 49 = .ok (.getfield 12, 3) := by decide +kernel
theorem dX10_generator_52 : decode cX10_generator 52 = .ok (.getfield 105, 3) := by decide +kernel
theorem dX10_generator_55 : decode cX10_generator 55 = .ok (.iload_n 1, 1) := by decide +kernel
theorem dX10_generator_56 : decode cX10_generator 56 = .ok (.iconst 1, 1) := by decide +kernel
theorem dX10_generator_57 : decode cX10_generator 57 = .ok (.isub, 1) := by decide +kernel
theorem dX10_generator_58 : decode cX10_generator 58 = .ok (.invokevirtual 155, 3) := by decide +kernel
theorem dX10_generator_61 : decode cX10_generator 61 = .ok (.invokestatic 144, 3) := by decide +kernel
theorem dX10_generator_64 : decode cX10_generator 64 = .ok (.goto 4, 3) := by decide +kernel
theorem dX10_generator_67 : decode cX10_generator 67 = .ok (.iconst (-1), 1) := by decide +kernel
theorem dX10_generator_68 : decode cX10_generator 68 = .ok (.ireturn, 1) := by decide +kernel
theorem dX10_tailOf_0 : decode cX10_tailOf 0 = .ok (.aload_n 0, 1) := by decide +kernel
theorem dX10_tailOf_1 : decode cX10_tailOf 1 = .ok (.getfield 12, 3) := by decide +kernel
theorem dX10_tailOf_4 : decode cX10_tailOf 4 = .ok (.getfield 105, 3) := by decide +kernel
theorem dX10_tailOf_7 : decode cX10_tailOf 7 = .ok (.iload_n 1, 1) := by decide +kernel
theorem dX10_tailOf_8 : decode cX10_tailOf 8 = .ok (.iconst 1, 1) := by decide +kernel
theorem dX10_tailOf_9 : decode cX10_tailOf 9 = .ok (.isub, 1) := by decide +kernel
theorem dX10_tailOf_10 : decode cX10_tailOf 10 = .ok (.iload_n 2, 1) := by decide +kernel
theorem dX10_tailOf_11 : decode cX10_tailOf 11 = .ok (.iconst 1, 1) := by decide +kernel
theorem dX10_tailOf_12 : decode cX10_tailOf 12 = .ok (.isub, 1) := by decide +kernel
theorem dX10_tailOf_13 : decode cX10_tailOf 13 = .ok (.iload_n 3, 1) := by decide +kernel
theorem dX10_tailOf_14 : decode cX10_tailOf 14 = .ok (.iconst 1, 1) := by decide +kernel
theorem dX10_tailOf_15 : decode cX10_tailOf 15 = .ok (.isub, 1) := by decide +kernel
theorem dX10_tailOf_16 : decode cX10_tailOf 16 = .ok (.invokevirtual 158, 3) := by decide +kernel
theorem dX10_tailOf_19 : decode cX10_tailOf 19 = .ok (.ifCond .eq 25, 3) := by decide +kernel
theorem dX10_tailOf_22 : decode cX10_tailOf 22 = .ok (.aload_n 0, 1) := by decide +kernel
theorem dX10_tailOf_23 : decode cX10_tailOf 23 = .ok (.getfield 12, 3) := by decide +kernel
theorem dX10_tailOf_26 : decode cX10_tailOf 26 = .ok (.getfield 105, 3) := by decide +kernel
theorem dX10_tailOf_29 : decode cX10_tailOf 29 = .ok (.iload_n 1, 1) := by decide +kernel
theorem dX10_tailOf_30 : decode cX10_tailOf 30 = .ok (.iconst 1, 1) := by decide +kernel
theorem dX10_tailOf_31 : decode cX10_tailOf 31 = .ok (.isub, 1) := by decide +kernel
theorem dX10_tailOf_32 : decode cX10_tailOf 32 = .ok (.iload_n 2, 1) := by decide +kernel
theorem dX10_tailOf_33 : decode cX10_tailOf 33 = .ok (.iconst 1, 1) := by decide +kernel
theorem dX10_tailOf_34 : decode cX10_tailOf 34 = .ok (.isub, 1) := by decide +kernel
theorem dX10_tailOf_35 : decode cX10_tailOf 35 = .ok (.iload_n 3, 1) := by decide +kernel
theorem dX10_tailOf_36 : decode cX10_tailOf 36 = .ok (.iconst 1, 1) := by decide +kernel
theorem dX10_tailOf_37 : decode cX10_tailOf 37 = .ok (.isub, 1) := by decide +kernel
theorem dX10_tailOf_38 : decode cX10_tailOf 38 = .ok (.invokevirtual 162, 3) := by decide +kernel
theorem dX10_tailOf_41 : decode cX10_tailOf 41 = .ok (.goto 4, 3) := by decide +kernel
theorem dX10_tailOf_44 : decode cX10_tailOf 44 = .ok (.iconst (-1), 1) := by decide +kernel
theorem dX10_tailOf_45 : decode cX10_tailOf 45 = .ok (.ireturn, 1) := by decide +kernel
theorem dX10_terms_0 : decode cX10_terms 0 = .ok (.aload_n 0, 1) := by decide +kernel
theorem dX10_terms_1 : decode cX10_terms 1 = .ok (.iload_n 1, 1) := by decide +kernel
theorem dX10_terms_2 : decode cX10_terms 2 = .ok (.invokevirtual 166, 3) := by decide +kernel
theorem dX10_terms_5 : decode cX10_terms 5 = .ok (.ifCond .eq 20, 3) := by decide +kernel
theorem dX10_terms_8 : decode cX10_terms 8 = .ok (.aload_n 0, 1) := by decide +kernel
theorem dX10_terms_9 : decode cX10_terms 9 = .ok (.getfield 53, 3) := by decide +kernel
theorem dX10_terms_12 : decode cX10_terms 12 = .ok (.getfield 169, 3) := by decide +kernel
theorem dX10_terms_15 : decode cX10_terms 15 = .ok (.iload_n 1, 1) := by decide +kernel
theorem dX10_terms_16 : decode cX10_terms 16 = .ok (.iconst 1, 1) := by decide +kernel
theorem dX10_terms_17 : decode cX10_terms 17 = .ok (.isub, 1) := by decide +kernel
theorem dX10_terms_18 : decode cX10_terms 18 = .ok (.aaload, 1) := by decide +kernel
theorem dX10_terms_19 : decode cX10_terms 19 = .ok (.getfield 173, 3) := by decide +kernel
theorem dX10_terms_22 : decode cX10_terms 22 = .ok (.goto 4, 3) := by decide +kernel
theorem dX10_terms_25 : decode cX10_terms 25 = .ok (.iconst (-1), 1) := by decide +kernel
theorem dX10_terms_26 : decode cX10_terms 26 = .ok (.ireturn, 1) := by decide +kernel
theorem dX10_term_0 : decode cX10_term 0 = .ok (.aload_n 0, 1) := by decide +kernel
theorem dX10_term_1 : decode cX10_term 1 = .ok (.getfield 12, 3) := by decide +kernel
theorem dX10_term_4 : decode cX10_term 4 = .ok (.getfield 105, 3) := by decide +kernel
theorem dX10_term_7 : decode cX10_term 7 = .ok (.getfield 178, 3) := by decide +kernel
theorem dX10_term_10 : decode cX10_term 10 = .ok (.istore 4, 2) := by decide +kernel
theorem dX10_term_12 : decode cX10_term 12 = .ok (.aload_n 0, 1) := by decide +kernel
theorem dX10_term_13 : decode cX10_term 13 = .ok (.iload_n 1, 1) := by decide +kernel
theorem dX10_term_14 : decode cX10_term 14 = .ok (.invokevirtual 166, 3) := by decide +kernel
theorem dX10_term_17 : decode cX10_term 17 = .ok (.ifCond .eq 15, 3) := by decide +kernel
theorem dX10_term_20 : decode cX10_term 20 = .ok (.iload_n 3, 1) := by decide +kernel
theorem dX10_term_21 : decode cX10_term 21 = .ok (.ifCond .lt 11, 3) := by decide +kernel
theorem dX10_term_24 : decode cX10_term 24 = .ok (.iload_n 3, 1) := by decide +kernel
theorem dX10_term_25 : decode cX10_term 25 = .ok (.iconst 2, 1) := by decide +kernel
theorem dX10_term_26 : decode cX10_term 26 = .ok (.iload 4, 2) := by decide +kernel
theorem dX10_term_28 : decode cX10_term 28 = .ok (.imul, 1) := by decide +kernel
theorem dX10_term_29 : decode cX10_term 29 = .ok (.if_icmp .le 7, 3) := by decide +kernel
theorem dX10_term_32 : decode cX10_term 32 = .ok (.sipush (-10000), 3) := by decide +kernel
theorem dX10_term_35 : decode cX10_term 35 = .ok (.ireturn, 1) := by decide +kernel
theorem dX10_term_36 : decode cX10_term 36 = .ok (.aload_n 0, 1) := by decide +kernel
theorem dX10_term_37 : decode cX10_term 37 = .ok (.getfield 53, 3) := by decide +kernel
theorem dX10_term_40 : decode cX10_term 40 = .ok (.getfield 169, 3) := by decide +kernel
theorem dX10_term_43 : decode cX10_term 43 = .ok (.iload_n 1, 1) := by decide +kernel
theorem dX10_term_44 : decode cX10_term 44 = .ok (.iconst 1, 1) := by decide +kernel
theorem dX10_term_45 : decode cX10_term 45 = .ok (.isub, 1) := by decide +kernel
theorem dX10_term_46 : decode cX10_term 46 = .ok (.aaload, 1) := by decide +kernel
theorem dX10_term_47 : decode cX10_term 47 = .ok (.astore 5, 2) := by decide +kernel
theorem dX10_term_49 : decode cX10_term 49 = .ok (.iload_n 2, 1) := by decide +kernel
theorem dX10_term_50 : decode cX10_term 50 = .ok (.ifCond .lt 12, 3) := by decide +kernel
theorem dX10_term_53 : decode cX10_term 53 = .ok (.iload_n 2, 1) := by decide +kernel
theorem dX10_term_54 : decode cX10_term 54 = .ok (.aload 5, 2) := by decide +kernel
theorem dX10_term_56 : decode cX10_term 56 = .ok (.getfield 173, 3) := by decide +kernel
theorem dX10_term_59 : decode cX10_term 59 = .ok (.if_icmp .lt 7, 3) := by decide +kernel
theorem dX10_term_62 : decode cX10_term 62 = .ok (.sipush (-10000), 3) := by decide +kernel
theorem dX10_term_65 : decode cX10_term 65 = .ok (.ireturn, 1) := by decide +kernel
theorem dX10_term_66 : decode cX10_term 66 = .ok (.iload_n 3, 1) := by decide +kernel
theorem dX10_term_67 : decode cX10_term 67 = .ok (.ifCond .ne 12, 3) := by decide +kernel
theorem dX10_term_70 : decode cX10_term 70 = .ok (.aload 5, 2) := by decide +kernel
theorem dX10_term_72 : decode cX10_term 72 = .ok (.getfield 179, 3) := by decide +kernel
theorem dX10_term_75 : decode cX10_term 75 = .ok (.iload_n 2, 1) := by decide +kernel
theorem dX10_term_76 : decode cX10_term 76 = .ok (.laload, 1) := by decide +kernel
theorem dX10_term_77 : decode cX10_term 77 = .ok (.l2i, 1) := by decide +kernel
theorem dX10_term_78 : decode cX10_term 78 = .ok (.ireturn, 1) := by decide +kernel
theorem dX10_term_79 : decode cX10_term 79 = .ok (.iload_n 3, 1) := by decide +kernel
theorem dX10_term_80 : decode cX10_term 80 = .ok (.iload 4, 2) := by decide +kernel
theorem dX10_term_82 : decode cX10_term 82 = .ok (.if_icmp .gt 9, 3) := by decide +kernel
theorem dX10_term_85 : decode cX10_term 85 = .ok (.iload_n 3, 1) := by decide +kernel
theorem dX10_term_86 : decode cX10_term 86 = .ok (.iconst 1, 1) := by decide +kernel
theorem dX10_term_87 : decode cX10_term 87 = .ok (.isub, 1) := by decide +kernel
theorem dX10_term_88 : decode cX10_term 88 = .ok (.goto 12, 3) := by decide +kernel
theorem dX10_term_91 : decode cX10_term 91 = .ok (.bipush 6, 2) := by decide +kernel
theorem dX10_term_93 : decode cX10_term 93 = .ok (.iload_n 3, 1) := by decide +kernel
theorem dX10_term_94 : decode cX10_term 94 = .ok (.iadd, 1) := by decide +kernel
theorem dX10_term_95 : decode cX10_term 95 = .ok (.iload 4, 2) := by decide +kernel
theorem dX10_term_97 : decode cX10_term 97 = .ok (.isub, 1) := by decide +kernel
theorem dX10_term_98 : decode cX10_term 98 = .ok (.iconst 1, 1) := by decide +kernel
theorem dX10_term_99 : decode cX10_term 99 = .ok (.isub, 1) := by decide +kernel
theorem dX10_term_100 : decode cX10_term 100 = .ok (.istore 6, 2) := by decide +kernel
theorem dX10_term_102 : decode cX10_term 102 = .ok (.aload 5, 2) := by decide +kernel
theorem dX10_term_104 : decode cX10_term 104 = .ok (.getfield 182, 3) := by decide +kernel
theorem dX10_term_107 : decode cX10_term 107 = .ok (.iload_n 2, 1) := by decide +kernel
theorem dX10_term_108 : decode cX10_term 108 = .ok (.iaload, 1) := by decide +kernel
theorem dX10_term_109 : decode cX10_term 109 = .ok (.iload 6, 2) := by decide +kernel
theorem dX10_term_111 : decode cX10_term 111 = .ok (.invokestatic 185, 3) := by decide +kernel
theorem dX10_term_114 : decode cX10_term 114 = .ok (.ireturn, 1) := by decide +kernel
theorem dX10_shape_0 : decode cX10_shape 0 = .ok (.aload_n 0, 1) := by decide +kernel
theorem dX10_shape_1 : decode cX10_shape 1 = .ok (.iload_n 1, 1) := by decide +kernel
theorem dX10_shape_2 : decode cX10_shape 2 = .ok (.invokevirtual 166, 3) := by decide +kernel
theorem dX10_shape_5 : decode cX10_shape 5 = .ok (.ifCond .ne 7, 3) := by decide +kernel
theorem dX10_shape_8 : decode cX10_shape 8 = .ok (.sipush (-10000), 3) := by decide +kernel
theorem dX10_shape_11 : decode cX10_shape 11 = .ok (.ireturn, 1) := by decide +kernel
theorem dX10_shape_12 : decode cX10_shape 12 = .ok (.aload_n 0, 1) := by decide +kernel
theorem dX10_shape_13 : decode cX10_shape 13 = .ok (.getfield 53, 3) := by decide +kernel
theorem dX10_shape_16 : decode cX10_shape 16 = .ok (.getfield 169, 3) := by decide +kernel
theorem dX10_shape_19 : decode cX10_shape 19 = .ok (.iload_n 1, 1) := by decide +kernel
theorem dX10_shape_20 : decode cX10_shape 20 = .ok (.iconst 1, 1) := by decide +kernel
theorem dX10_shape_21 : decode cX10_shape 21 = .ok (.isub, 1) := by decide +kernel
theorem dX10_shape_22 : decode cX10_shape 22 = .ok (.aaload, 1) := by decide +kernel
theorem dX10_shape_23 : decode cX10_shape 23 = .ok (.astore_n 3, 1) := by decide +kernel
theorem dX10_shape_24 : decode cX10_shape 24 = .ok (.iload_n 2, 1) := by decide +kernel
theorem dX10_shape_25 : decode cX10_shape 25 = .ok (.tableswitch 59 0 3 #[31, 36, 48, 53], 31) := by decide +kernel
theorem dX10_shape_56 : decode cX10_shape 56 = .ok (.aload_n 3, 1) := by decide +kernel
theorem dX10_shape_57 : decode cX10_shape 57 = .ok (.invokevirtual 189, 3) := by decide +kernel
theorem dX10_shape_60 : decode cX10_shape 60 = .ok (.ireturn, 1) := by decide +kernel
theorem dX10_shape_61 : decode cX10_shape 61 = .ok (.aload_n 3, 1) := by decide +kernel
theorem dX10_shape_62 : decode cX10_shape 62 = .ok (.aload_n 0, 1) := by decide +kernel
theorem dX10_shape_63 : decode cX10_shape 63 = .ok (.getfield 12, 3) := by decide +kernel
theorem dX10_shape_66 : decode cX10_shape 66 = .ok (.getfield 105, 3) := by decide +kernel
theorem dX10_shape_69 : decode cX10_shape 69 = .ok (.invokevirtual 193, 3) := by decide +kernel
theorem dX10_shape_72 : decode cX10_shape 72 = .ok (.ireturn, 1) := by decide +kernel
theorem dX10_shape_73 : decode cX10_shape 73 = .ok (.aload_n 3, 1) := by decide +kernel
theorem dX10_shape_74 : decode cX10_shape 74 = .ok (.invokevirtual 197, 3) := by decide +kernel
theorem dX10_shape_77 : decode cX10_shape 77 = .ok (.ireturn, 1) := by decide +kernel
theorem dX10_shape_78 : decode cX10_shape 78 = .ok (.aload_n 3, 1) := by decide +kernel
theorem dX10_shape_79 : decode cX10_shape 79 = .ok (.invokevirtual 200, 3) := by decide +kernel
theorem dX10_shape_82 : decode cX10_shape 82 = .ok (.l2i, 1) := by decide +kernel
theorem dX10_shape_83 : decode cX10_shape 83 = .ok (.ireturn, 1) := by decide +kernel
theorem dX10_shape_84 : decode cX10_shape 84 = .ok (.sipush (-10000), 3) := by decide +kernel
theorem dX10_shape_87 : decode cX10_shape 87 = .ok (.ireturn, 1) := by decide +kernel
theorem dX10_set_0 : decode cX10_set 0 = .ok (.iload_n 1, 1) := by decide +kernel
theorem dX10_set_1 : decode cX10_set 1 = .ok (.invokestatic 204, 3) := by decide +kernel
theorem dX10_set_4 : decode cX10_set 4 = .ok (.ifCond .eq 21, 3) := by decide +kernel
theorem dX10_set_7 : decode cX10_set 7 = .ok (.aload_n 0, 1) := by decide +kernel
theorem dX10_set_8 : decode cX10_set 8 = .ok (.iload_n 2, 1) := by decide +kernel
theorem dX10_set_9 : decode cX10_set 9 = .ok (.invokevirtual 148, 3) := by decide +kernel
theorem dX10_set_12 : decode cX10_set 12 = .ok (.ifCond .eq 13, 3) := by decide +kernel
theorem dX10_set_15 : decode cX10_set 15 = .ok (.aload_n 0, 1) := by decide +kernel
theorem dX10_set_16 : decode cX10_set 16 = .ok (.getfield 53, 3) := by decide +kernel
theorem dX10_set_19 : decode cX10_set 19 = .ok (.getfield 141, 3) := by decide +kernel
theorem dX10_set_22 : decode cX10_set 22 = .ok (.ifCond .ne 5, 3) := by decide +kernel
theorem dX10_set_25 : decode cX10_set 25 = .ok (.iconst 0, 1) := by decide +kernel
theorem dX10_set_26 : decode cX10_set 26 = .ok (.ireturn, 1) := by decide +kernel
theorem dX10_set_27 : decode cX10_set 27 = .ok (.iload_n 3, 1) := by decide +kernel
theorem dX10_set_28 : decode cX10_set 28 = .ok (.sipush (-999), 3) := by decide +kernel
theorem dX10_set_31 : decode cX10_set 31 = .ok (.if_icmp .lt 10, 3) := by decide +kernel
theorem dX10_set_34 : decode cX10_set 34 = .ok (.iload_n 3, 1) := by decide +kernel
theorem dX10_set_35 : decode cX10_set 35 = .ok (.sipush 999, 3) := by decide +kernel
theorem dX10_set_38 : decode cX10_set 38 = .ok (.if_icmp .le 5, 3) := by decide +kernel
theorem dX10_set_41 : decode cX10_set 41 = .ok (.iconst 0, 1) := by decide +kernel
theorem dX10_set_42 : decode cX10_set 42 = .ok (.ireturn, 1) := by decide +kernel
theorem dX10_set_43 : decode cX10_set 43 = .ok (.aload_n 0, 1) := by decide +kernel
theorem dX10_set_44 : decode cX10_set 44 = .ok (.invokevirtual 207, 3) := by decide +kernel
theorem dX10_set_47 : decode cX10_set 47 = .ok (.aload_n 0, 1) := by decide +kernel
theorem dX10_set_48 : decode cX10_set 48 = .ok (.getfield 12, 3) := by decide +kernel
theorem dX10_set_51 : decode cX10_set 51 = .ok (.getfield 210, 3) := by decide +kernel
theorem dX10_set_54 : decode cX10_set 54 = .ok (.iload_n 1, 1) := by decide +kernel
theorem dX10_set_55 : decode cX10_set 55 = .ok (.aaload, 1) := by decide +kernel
theorem dX10_set_56 : decode cX10_set 56 = .ok (.iload_n 2, 1) := by decide +kernel
theorem dX10_set_57 : decode cX10_set 57 = .ok (.iconst 1, 1) := by decide +kernel
theorem dX10_set_58 : decode cX10_set 58 = .ok (.isub, 1) := by decide +kernel
theorem dX10_set_59 : decode cX10_set 59 = .ok (.iload_n 3, 1) := by decide +kernel
theorem dX10_set_60 : decode cX10_set 60 = .ok (.i2l, 1) := by decide +kernel
theorem dX10_set_61 : decode cX10_set 61 = .ok (.lastore, 1) := by decide +kernel
theorem dX10_set_62 : decode cX10_set 62 = .ok (.iconst 1, 1) := by decide +kernel
theorem dX10_set_63 : decode cX10_set 63 = .ok (.ireturn, 1) := by decide +kernel
theorem dX10_multiply_0 : decode cX10_multiply 0 = .ok (.aload_n 0, 1) := by decide +kernel
theorem dX10_multiply_1 : decode cX10_multiply 1 = .ok (.iload_n 1, 1) := by decide +kernel
theorem dX10_multiply_2 : decode cX10_multiply 2 = .ok (.iload_n 2, 1) := by decide +kernel
theorem dX10_multiply_3 : decode cX10_multiply 3 = .ok (.invokevirtual 214, 3) := by decide +kernel
theorem dX10_multiply_6 : decode cX10_multiply 6 = .ok (.ifCond .eq 10, 3) := by decide +kernel
theorem dX10_multiply_9 : decode cX10_multiply 9 = .ok (.iload_n 3, 1) := by decide +kernel
theorem dX10_multiply_10 : decode cX10_multiply 10 = .ok (.invokestatic 204, 3) := by decide +kernel
theorem dX10_multiply_13 : decode cX10_multiply 13 = .ok (.ifCond .ne 5, 3) := by decide +kernel
theorem dX10_multiply_16 : decode cX10_multiply 16 = .ok (.iconst 0, 1) := by decide +kernel
theorem dX10_multiply_17 : decode cX10_multiply 17 = .ok (.ireturn, 1) := by decide +kernel
theorem dX10_multiply_18 : decode cX10_multiply 18 = .ok (.aload_n 0, 1) := by decide +kernel
theorem dX10_multiply_19 : decode cX10_multiply 19 = .ok (.getfield 62, 3) := by decide +kernel
theorem dX10_multiply_22 : decode cX10_multiply 22 = .ok (.aload_n 0, 1) := by decide +kernel
theorem dX10_multiply_23 : decode cX10_multiply 23 = .ok (.getfield 98, 3) := by decide +kernel
theorem dX10_multiply_26 : decode cX10_multiply 26 = .ok (.aload_n 0, 1) := by decide +kernel
theorem dX10_multiply_27 : decode cX10_multiply 27 = .ok (.getfield 12, 3) := by decide +kernel
theorem dX10_multiply_30 : decode cX10_multiply 30 = .ok (.getfield 210, 3) := by decide +kernel
theorem dX10_multiply_33 : decode cX10_multiply 33 = .ok (.iload_n 2, 1) := by decide +kernel
theorem dX10_multiply_34 : decode cX10_multiply 34 = .ok (.aaload, 1) := by decide +kernel
theorem dX10_multiply_35 : decode cX10_multiply 35 = .ok (.aload_n 0, 1) := by decide +kernel
theorem dX10_multiply_36 : decode cX10_multiply 36 = .ok (.getfield 12, 3) := by decide +kernel
theorem dX10_multiply_39 : decode cX10_multiply 39 = .ok (.getfield 210, 3) := by decide +kernel
theorem dX10_multiply_42 : decode cX10_multiply 42 = .ok (.iload_n 3, 1) := by decide +kernel
theorem dX10_multiply_43 : decode cX10_multiply 43 = .ok (.aaload, 1) := by decide +kernel
theorem dX10_multiply_44 : decode cX10_multiply 44 = .ok (.invokevirtual 217, 3) := by decide +kernel
theorem dX10_multiply_47 : decode cX10_multiply 47 = .ok (.aload_n 0, 1) := by decide +kernel
theorem dX10_multiply_48 : decode cX10_multiply 48 = .ok (.iload_n 1, 1) := by decide +kernel
theorem dX10_multiply_49 : decode cX10_multiply 49 = .ok (.invokevirtual 221, 3) := by decide +kernel
theorem dX10_multiply_52 : decode cX10_multiply 52 = .ok (.ireturn, 1) := by decide +kernel
theorem dX10_invert_0 : decode cX10_invert 0 = .ok (.aload_n 0, 1) := by decide +kernel
theorem dX10_invert_1 : decode cX10_invert 1 = .ok (.iload_n 1, 1) := by decide +kernel
theorem dX10_invert_2 : decode cX10_invert 2 = .ok (.iload_n 2, 1) := by decide +kernel
theorem dX10_invert_3 : decode cX10_invert 3 = .ok (.invokevirtual 214, 3) := by decide +kernel
theorem dX10_invert_6 : decode cX10_invert 6 = .ok (.ifCond .ne 5, 3) := by decide +kernel
theorem dX10_invert_9 : decode cX10_invert 9 = .ok (.iconst 0, 1) := by decide +kernel
theorem dX10_invert_10 : decode cX10_invert 10 = .ok (.ireturn, 1) := by decide +kernel
theorem dX10_invert_11 : decode cX10_invert 11 = .ok (.aload_n 0, 1) := by decide +kernel
theorem dX10_invert_12 : decode cX10_invert 12 = .ok (.getfield 62, 3) := by decide +kernel
theorem dX10_invert_15 : decode cX10_invert 15 = .ok (.aload_n 0, 1) := by decide +kernel
theorem dX10_invert_16 : decode cX10_invert 16 = .ok (.getfield 98, 3) := by decide +kernel
theorem dX10_invert_19 : decode cX10_invert 19 = .ok (.aload_n 0, 1) := by decide +kernel
theorem dX10_invert_20 : decode cX10_invert 20 = .ok (.getfield 12, 3) := by decide +kernel
theorem dX10_invert_23 : decode cX10_invert 23 = .ok (.getfield 210, 3) := by decide +kernel
theorem dX10_invert_26 : decode cX10_invert 26 = .ok (.iload_n 2, 1) := by decide +kernel
theorem dX10_invert_27 : decode cX10_invert 27 = .ok (.aaload, 1) := by decide +kernel
theorem dX10_invert_28 : decode cX10_invert 28 = .ok (.invokevirtual 224, 3) := by decide +kernel
theorem dX10_invert_31 : decode cX10_invert 31 = .ok (.aload_n 0, 1) := by decide +kernel
theorem dX10_invert_32 : decode cX10_invert 32 = .ok (.iload_n 1, 1) := by decide +kernel
theorem dX10_invert_33 : decode cX10_invert 33 = .ok (.invokevirtual 221, 3) := by decide +kernel
theorem dX10_invert_36 : decode cX10_invert 36 = .ok (.ireturn, 1) := by decide +kernel
theorem dX10_power_0 : decode cX10_power 0 = .ok (.aload_n 0, 1) := by decide +kernel
theorem dX10_power_1 : decode cX10_power 1 = .ok (.iload_n 1, 1) := by decide +kernel
theorem dX10_power_2 : decode cX10_power 2 = .ok (.iload_n 2, 1) := by decide +kernel
theorem dX10_power_3 : decode cX10_power 3 = .ok (.invokevirtual 214, 3) := by decide +kernel
theorem dX10_power_6 : decode cX10_power 6 = .ok (.ifCond .eq 15, 3) := by decide +kernel
theorem dX10_power_9 : decode cX10_power 9 = .ok (.iload_n 3, 1) := by decide +kernel
theorem dX10_power_10 : decode cX10_power 10 = .ok (.bipush (-99), 2) := by decide +kernel
theorem dX10_power_12 : decode cX10_power 12 = .ok (.if_icmp .lt 9, 3) := by decide +kernel
theorem dX10_power_15 : decode cX10_power 15 = .ok (.iload_n 3, 1) := by decide +kernel
theorem dX10_power_16 : decode cX10_power 16 = .ok (.bipush 99, 2) := by decide +kernel
theorem dX10_power_18 : decode cX10_power 18 = .ok (.if_icmp .le 5, 3) := by decide +kernel
theorem dX10_power_21 : decode cX10_power 21 = .ok (.iconst 0, 1) := by decide +kernel
theorem dX10_power_22 : decode cX10_power 22 = .ok (.ireturn, 1) := by decide +kernel
theorem dX10_power_23 : decode cX10_power 23 = .ok (.aload_n 0, 1) := by decide +kernel
theorem dX10_power_24 : decode cX10_power 24 = .ok (.getfield 62, 3) := by decide +kernel
theorem dX10_power_27 : decode cX10_power 27 = .ok (.aload_n 0, 1) := by decide +kernel
theorem dX10_power_28 : decode cX10_power 28 = .ok (.getfield 98, 3) := by decide +kernel
theorem dX10_power_31 : decode cX10_power 31 = .ok (.aload_n 0, 1) := by decide +kernel
theorem dX10_power_32 : decode cX10_power 32 = .ok (.getfield 12, 3) := by decide +kernel
theorem dX10_power_35 : decode cX10_power 35 = .ok (.getfield 210, 3) := by decide +kernel
theorem dX10_power_38 : decode cX10_power 38 = .ok (.iload_n 2, 1) := by decide +kernel
theorem dX10_power_39 : decode cX10_power 39 = .ok (.aaload, 1) := by decide +kernel
theorem dX10_power_40 : decode cX10_power 40 = .ok (.iload_n 3, 1) := by decide +kernel
theorem dX10_power_41 : decode cX10_power 41 = .ok (.i2l, 1) := by decide +kernel
theorem dX10_power_42 : decode cX10_power 42 = .ok (.invokevirtual 228, 3) := by decide +kernel
theorem dX10_power_45 : decode cX10_power 45 = .ok (.aload_n 0, 1) := by decide +kernel
theorem dX10_power_46 : decode cX10_power 46 = .ok (.iload_n 1, 1) := by decide +kernel
theorem dX10_power_47 : decode cX10_power 47 = .ok (.invokevirtual 221, 3) := by decide +kernel
theorem dX10_power_50 : decode cX10_power 50 = .ok (.ireturn, 1) := by decide +kernel
theorem dX10_commute_0 : decode cX10_commute 0 = .ok (.aload_n 0, 1) := by decide +kernel
theorem dX10_commute_1 : decode cX10_commute 1 = .ok (.iload_n 1, 1) := by decide +kernel
theorem dX10_commute_2 : decode cX10_commute 2 = .ok (.iload_n 2, 1) := by decide +kernel
theorem dX10_commute_3 : decode cX10_commute 3 = .ok (.invokevirtual 214, 3) := by decide +kernel
theorem dX10_commute_6 : decode cX10_commute 6 = .ok (.ifCond .eq 10, 3) := by decide +kernel
theorem dX10_commute_9 : decode cX10_commute 9 = .ok (.iload_n 3, 1) := by decide +kernel
theorem dX10_commute_10 : decode cX10_commute 10 = .ok (.invokestatic 204, 3) := by decide +kernel
theorem dX10_commute_13 : decode cX10_commute 13 = .ok (.ifCond .ne 5, 3) := by decide +kernel
theorem dX10_commute_16 : decode cX10_commute 16 = .ok (.iconst 0, 1) := by decide +kernel
theorem dX10_commute_17 : decode cX10_commute 17 = .ok (.ireturn, 1) := by decide +kernel
theorem dX10_commute_18 : decode cX10_commute 18 = .ok (.aload_n 0, 1) := by decide +kernel
theorem dX10_commute_19 : decode cX10_commute 19 = .ok (.getfield 62, 3) := by decide +kernel
theorem dX10_commute_22 : decode cX10_commute 22 = .ok (.aload_n 0, 1) := by decide +kernel
theorem dX10_commute_23 : decode cX10_commute 23 = .ok (.getfield 98, 3) := by decide +kernel
theorem dX10_commute_26 : decode cX10_commute 26 = .ok (.aload_n 0, 1) := by decide +kernel
theorem dX10_commute_27 : decode cX10_commute 27 = .ok (.getfield 12, 3) := by decide +kernel
theorem dX10_commute_30 : decode cX10_commute 30 = .ok (.getfield 210, 3) := by decide +kernel
theorem dX10_commute_33 : decode cX10_commute 33 = .ok (.iload_n 2, 1) := by decide +kernel
theorem dX10_commute_34 : decode cX10_commute 34 = .ok (.aaload, 1) := by decide +kernel
theorem dX10_commute_35 : decode cX10_commute 35 = .ok (.aload_n 0, 1) := by decide +kernel
theorem dX10_commute_36 : decode cX10_commute 36 = .ok (.getfield 12, 3) := by decide +kernel
theorem dX10_commute_39 : decode cX10_commute 39 = .ok (.getfield 210, 3) := by decide +kernel
theorem dX10_commute_42 : decode cX10_commute 42 = .ok (.iload_n 3, 1) := by decide +kernel
theorem dX10_commute_43 : decode cX10_commute 43 = .ok (.aaload, 1) := by decide +kernel
theorem dX10_commute_44 : decode cX10_commute 44 = .ok (.invokevirtual 232, 3) := by decide +kernel
theorem dX10_commute_47 : decode cX10_commute 47 = .ok (.aload_n 0, 1) := by decide +kernel
theorem dX10_commute_48 : decode cX10_commute 48 = .ok (.iload_n 1, 1) := by decide +kernel
theorem dX10_commute_49 : decode cX10_commute 49 = .ok (.invokevirtual 221, 3) := by decide +kernel
theorem dX10_commute_52 : decode cX10_commute 52 = .ok (.ireturn, 1) := by decide +kernel
theorem dX10_conjugate_0 : decode cX10_conjugate 0 = .ok (.aload_n 0, 1) := by decide +kernel
theorem dX10_conjugate_1 : decode cX10_conjugate 1 = .ok (.iload_n 1, 1) := by decide +kernel
theorem dX10_conjugate_2 : decode cX10_conjugate 2 = .ok (.iload_n 2, 1) := by decide +kernel
theorem dX10_conjugate_3 : decode cX10_conjugate 3 = .ok (.invokevirtual 214, 3) := by decide +kernel
theorem dX10_conjugate_6 : decode cX10_conjugate 6 = .ok (.ifCond .eq 10, 3) := by decide +kernel
theorem dX10_conjugate_9 : decode cX10_conjugate 9 = .ok (.iload_n 3, 1) := by decide +kernel
theorem dX10_conjugate_10 : decode cX10_conjugate 10 = .ok (.invokestatic 204, 3) := by decide +kernel
theorem dX10_conjugate_13 : decode cX10_conjugate 13 = .ok (.ifCond .ne 5, 3) := by decide +kernel
theorem dX10_conjugate_16 : decode cX10_conjugate 16 = .ok (.iconst 0, 1) := by decide +kernel
theorem dX10_conjugate_17 : decode cX10_conjugate 17 = .ok (.ireturn, 1) := by decide +kernel
theorem dX10_conjugate_18 : decode cX10_conjugate 18 = .ok (.aload_n 0, 1) := by decide +kernel
theorem dX10_conjugate_19 : decode cX10_conjugate 19 = .ok (.getfield 62, 3) := by decide +kernel
theorem dX10_conjugate_22 : decode cX10_conjugate 22 = .ok (.aload_n 0, 1) := by decide +kernel
theorem dX10_conjugate_23 : decode cX10_conjugate 23 = .ok (.getfield 98, 3) := by decide +kernel
theorem dX10_conjugate_26 : decode cX10_conjugate 26 = .ok (.aload_n 0, 1) := by decide +kernel
theorem dX10_conjugate_27 : decode cX10_conjugate 27 = .ok (.getfield 12, 3) := by decide +kernel
theorem dX10_conjugate_30 : decode cX10_conjugate 30 = .ok (.getfield 210, 3) := by decide +kernel
theorem dX10_conjugate_33 : decode cX10_conjugate 33 = .ok (.iload_n 2, 1) := by decide +kernel
theorem dX10_conjugate_34 : decode cX10_conjugate 34 = .ok (.aaload, 1) := by decide +kernel
theorem dX10_conjugate_35 : decode cX10_conjugate 35 = .ok (.aload_n 0, 1) := by decide +kernel
theorem dX10_conjugate_36 : decode cX10_conjugate 36 = .ok (.getfield 12, 3) := by decide +kernel
theorem dX10_conjugate_39 : decode cX10_conjugate 39 = .ok (.getfield 210, 3) := by decide +kernel
theorem dX10_conjugate_42 : decode cX10_conjugate 42 = .ok (.iload_n 3, 1) := by decide +kernel
theorem dX10_conjugate_43 : decode cX10_conjugate 43 = .ok (.aaload, 1) := by decide +kernel
theorem dX10_conjugate_44 : decode cX10_conjugate 44 = .ok (.invokevirtual 235, 3) := by decide +kernel
theorem dX10_conjugate_47 : decode cX10_conjugate 47 = .ok (.aload_n 0, 1) := by decide +kernel
theorem dX10_conjugate_48 : decode cX10_conjugate 48 = .ok (.iload_n 1, 1) := by decide +kernel
theorem dX10_conjugate_49 : decode cX10_conjugate 49 = .ok (.invokevirtual 221, 3) := by decide +kernel
theorem dX10_conjugate_52 : decode cX10_conjugate 52 = .ok (.ireturn, 1) := by decide +kernel
theorem dX10_root_0 : decode cX10_root 0 = .ok (.aload_n 0, 1) := by decide +kernel
theorem dX10_root_1 : decode cX10_root 1 = .ok (.iload_n 1, 1) := by decide +kernel
theorem dX10_root_2 : decode cX10_root 2 = .ok (.iload_n 2, 1) := by decide +kernel
theorem dX10_root_3 : decode cX10_root 3 = .ok (.invokevirtual 214, 3) := by decide +kernel
theorem dX10_root_6 : decode cX10_root 6 = .ok (.ifCond .eq 14, 3) := by decide +kernel
theorem dX10_root_9 : decode cX10_root 9 = .ok (.iload_n 3, 1) := by decide +kernel
theorem dX10_root_10 : decode cX10_root 10 = .ok (.iconst 1, 1) := by decide +kernel
theorem dX10_root_11 : decode cX10_root 11 = .ok (.if_icmp .lt 9, 3) := by decide +kernel
theorem dX10_root_14 : decode cX10_root 14 = .ok (.iload_n 3, 1) := by decide +kernel
theorem dX10_root_15 : decode cX10_root 15 = .ok (.bipush 99, 2) := by decide +kernel
theorem dX10_root_17 : decode cX10_root 17 = .ok (.if_icmp .le 5, 3) := by decide +kernel
theorem dX10_root_20 : decode cX10_root 20 = .ok (.iconst 0, 1) := by decide +kernel
theorem dX10_root_21 : decode cX10_root 21 = .ok (.ireturn, 1) := by decide +kernel
theorem dX10_root_22 : decode cX10_root 22 = .ok (.aload_n 0, 1) := by decide +kernel
theorem dX10_root_23 : decode cX10_root 23 = .ok (.getfield 62, 3) := by decide +kernel
theorem dX10_root_26 : decode cX10_root 26 = .ok (.aload_n 0, 1) := by decide +kernel
theorem dX10_root_27 : decode cX10_root 27 = .ok (.getfield 98, 3) := by decide +kernel
theorem dX10_root_30 : decode cX10_root 30 = .ok (.aload_n 0, 1) := by decide +kernel
theorem dX10_root_31 : decode cX10_root 31 = .ok (.getfield 12, 3) := by decide +kernel
theorem dX10_root_34 : decode cX10_root 34 = .ok (.getfield 210, 3) := by decide +kernel
theorem dX10_root_37 : decode cX10_root 37 = .ok (.iload_n 2, 1) := by decide +kernel
theorem dX10_root_38 : decode cX10_root 38 = .ok (.aaload, 1) := by decide +kernel
theorem dX10_root_39 : decode cX10_root 39 = .ok (.iload_n 3, 1) := by decide +kernel
theorem dX10_root_40 : decode cX10_root 40 = .ok (.i2l, 1) := by decide +kernel
theorem dX10_root_41 : decode cX10_root 41 = .ok (.invokevirtual 238, 3) := by decide +kernel
theorem dX10_root_44 : decode cX10_root 44 = .ok (.ifCond .eq 15, 3) := by decide +kernel
theorem dX10_root_47 : decode cX10_root 47 = .ok (.aload_n 0, 1) := by decide +kernel
theorem dX10_root_48 : decode cX10_root 48 = .ok (.iload_n 1, 1) := by decide +kernel
theorem dX10_root_49 : decode cX10_root 49 = .ok (.invokevirtual 242, 3) := by decide +kernel
theorem dX10_root_52 : decode cX10_root 52 = .ok (.ifCond .eq 7, 3) := by decide +kernel
theorem dX10_root_55 : decode cX10_root 55 = .ok (.iconst 1, 1) := by decide +kernel
theorem dX10_root_56 : decode cX10_root 56 = .ok (.goto 4, 3) := by decide +kernel
theorem dX10_root_59 : decode cX10_root 59 = .ok (.iconst 0, 1) := by decide +kernel
theorem dX10_root_60 : decode cX10_root 60 = .ok (.ireturn, 1) := by decide +kernel
theorem dX10_seek_0 : decode cX10_seek 0 = .ok (.aload_n 0, 1) := by decide +kernel
theorem dX10_seek_1 : decode cX10_seek 1 = .ok (.iload_n 1, 1) := by decide +kernel
theorem dX10_seek_2 : decode cX10_seek 2 = .ok (.iload_n 2, 1) := by decide +kernel
theorem dX10_seek_3 : decode cX10_seek 3 = .ok (.invokevirtual 214, 3) := by decide +kernel
theorem dX10_seek_6 : decode cX10_seek 6 = .ok (.ifCond .eq 22, 3) := by decide +kernel
theorem dX10_seek_9 : decode cX10_seek 9 = .ok (.iload_n 3, 1) := by decide +kernel
theorem dX10_seek_10 : decode cX10_seek 10 = .ok (.invokestatic 204, 3) := by decide +kernel
theorem dX10_seek_13 : decode cX10_seek 13 = .ok (.ifCond .eq 15, 3) := by decide +kernel
theorem dX10_seek_16 : decode cX10_seek 16 = .ok (.iload 4, 2) := by decide +kernel
theorem dX10_seek_18 : decode cX10_seek 18 = .ok (.iconst 1, 1) := by decide +kernel
theorem dX10_seek_19 : decode cX10_seek 19 = .ok (.if_icmp .lt 9, 3) := by decide +kernel
theorem dX10_seek_22 : decode cX10_seek 22 = .ok (.iload 4, 2) := by decide +kernel
theorem dX10_seek_24 : decode cX10_seek 24 = .ok (.iconst 3, 1) := by decide +kernel
theorem dX10_seek_25 : decode cX10_seek 25 = .ok (.if_icmp .le 5, 3) := by decide +kernel
theorem dX10_seek_28 : decode cX10_seek 28 = .ok (.iconst 0, 1) := by decide +kernel
theorem dX10_seek_29 : decode cX10_seek 29 = .ok (.ireturn, 1) := by decide +kernel
theorem dX10_seek_30 : decode cX10_seek 30 = .ok (.aload_n 0, 1) := by decide +kernel
theorem dX10_seek_31 : decode cX10_seek 31 = .ok (.getfield 69, 3) := by decide +kernel
theorem dX10_seek_34 : decode cX10_seek 34 = .ok (.aload_n 0, 1) := by decide +kernel
theorem dX10_seek_35 : decode cX10_seek 35 = .ok (.getfield 98, 3) := by decide +kernel
theorem dX10_seek_38 : decode cX10_seek 38 = .ok (.aload_n 0, 1) := by decide +kernel
theorem dX10_seek_39 : decode cX10_seek 39 = .ok (.getfield 12, 3) := by decide +kernel
theorem dX10_seek_42 : decode cX10_seek 42 = .ok (.getfield 210, 3) := by decide +kernel
theorem dX10_seek_45 : decode cX10_seek 45 = .ok (.iload_n 2, 1) := by decide +kernel
theorem dX10_seek_46 : decode cX10_seek 46 = .ok (.aaload, 1) := by decide +kernel
theorem dX10_seek_47 : decode cX10_seek 47 = .ok (.aload_n 0, 1) := by decide +kernel
theorem dX10_seek_48 : decode cX10_seek 48 = .ok (.getfield 12, 3) := by decide +kernel
theorem dX10_seek_51 : decode cX10_seek 51 = .ok (.getfield 210, 3) := by decide +kernel
theorem dX10_seek_54 : decode cX10_seek 54 = .ok (.iload_n 3, 1) := by decide +kernel
theorem dX10_seek_55 : decode cX10_seek 55 = .ok (.aaload, 1) := by decide +kernel
theorem dX10_seek_56 : decode cX10_seek 56 = .ok (.iload 4, 2) := by decide +kernel
theorem dX10_seek_58 : decode cX10_seek 58 = .ok (.invokevirtual 245, 3) := by decide +kernel
theorem dX10_seek_61 : decode cX10_seek 61 = .ok (.ifCond .eq 15, 3) := by decide +kernel
theorem dX10_seek_64 : decode cX10_seek 64 = .ok (.aload_n 0, 1) := by decide +kernel
theorem dX10_seek_65 : decode cX10_seek 65 = .ok (.iload_n 1, 1) := by decide +kernel
theorem dX10_seek_66 : decode cX10_seek 66 = .ok (.invokevirtual 242, 3) := by decide +kernel
theorem dX10_seek_69 : decode cX10_seek 69 = .ok (.ifCond .eq 7, 3) := by decide +kernel
theorem dX10_seek_72 : decode cX10_seek 72 = .ok (.iconst 1, 1) := by decide +kernel
theorem dX10_seek_73 : decode cX10_seek 73 = .ok (.goto 4, 3) := by decide +kernel
theorem dX10_seek_76 : decode cX10_seek 76 = .ok (.iconst 0, 1) := by decide +kernel
theorem dX10_seek_77 : decode cX10_seek 77 = .ok (.ireturn, 1) := by decide +kernel
theorem dX10_feed_0 : decode cX10_feed 0 = .ok (.aload_n 0, 1) := by decide +kernel
theorem dX10_feed_1 : decode cX10_feed 1 = .ok (.getfield 38, 3) := by decide +kernel
theorem dX10_feed_4 : decode cX10_feed 4 = .ok (.sipush 180, 3) := by decide +kernel
theorem dX10_feed_7 : decode cX10_feed 7 = .ok (.if_icmp .le 5, 3) := by decide +kernel
theorem dX10_feed_10 : decode cX10_feed 10 = .ok (.iconst (-1), 1) := by decide +kernel
theorem dX10_feed_11 : decode cX10_feed 11 = .ok (.ireturn, 1) := by decide +kernel
theorem dX10_feed_12 : decode cX10_feed 12 = .ok (.aload_n 0, 1) := by decide +kernel
theorem dX10_feed_13 : decode cX10_feed 13 = .ok (.iload_n 1, 1) := by decide +kernel
theorem dX10_feed_14 : decode cX10_feed 14 = .ok (.invokevirtual 249, 3) := by decide +kernel
theorem dX10_feed_17 : decode cX10_feed 17 = .ok (.aload_n 0, 1) := by decide +kernel
theorem dX10_feed_18 : decode cX10_feed 18 = .ok (.iload_n 2, 1) := by decide +kernel
theorem dX10_feed_19 : decode cX10_feed 19 = .ok (.invokevirtual 249, 3) := by decide +kernel
theorem dX10_feed_22 : decode cX10_feed 22 = .ok (.aload_n 0, 1) := by decide +kernel
theorem dX10_feed_23 : decode cX10_feed 23 = .ok (.iload_n 3, 1) := by decide +kernel
theorem dX10_feed_24 : decode cX10_feed 24 = .ok (.invokevirtual 249, 3) := by decide +kernel
theorem dX10_feed_27 : decode cX10_feed 27 = .ok (.aload_n 0, 1) := by decide +kernel
theorem dX10_feed_28 : decode cX10_feed 28 = .ok (.iload 4, 2) := by decide +kernel
theorem dX10_feed_30 : decode cX10_feed 30 = .ok (.invokevirtual 249, 3) := by decide +kernel
theorem dX10_feed_33 : decode cX10_feed 33 = .ok (.aload_n 0, 1) := by decide +kernel
theorem dX10_feed_34 : decode cX10_feed 34 = .ok (.iload 5, 2) := by decide +kernel
theorem dX10_feed_36 : decode cX10_feed 36 = .ok (.invokevirtual 249, 3) := by decide +kernel
theorem dX10_feed_39 : decode cX10_feed 39 = .ok (.aload_n 0, 1) := by decide +kernel
theorem dX10_feed_40 : decode cX10_feed 40 = .ok (.getfield 38, 3) := by decide +kernel
theorem dX10_feed_43 : decode cX10_feed 43 = .ok (.ireturn, 1) := by decide +kernel
theorem dX10_end_0 : decode cX10_end 0 = .ok (.iload_n 1, 1) := by decide +kernel
theorem dX10_end_1 : decode cX10_end 1 = .ok (.ifCond .lt 11, 3) := by decide +kernel
theorem dX10_end_4 : decode cX10_end 4 = .ok (.iload_n 1, 1) := by decide +kernel
theorem dX10_end_5 : decode cX10_end 5 = .ok (.aload_n 0, 1) := by decide +kernel
theorem dX10_end_6 : decode cX10_end 6 = .ok (.getfield 38, 3) := by decide +kernel
theorem dX10_end_9 : decode cX10_end 9 = .ok (.if_icmp .le 5, 3) := by decide +kernel
theorem dX10_end_12 : decode cX10_end 12 = .ok (.iconst 0, 1) := by decide +kernel
theorem dX10_end_13 : decode cX10_end 13 = .ok (.ireturn, 1) := by decide +kernel
theorem dX10_end_14 : decode cX10_end 14 = .ok (.aload_n 0, 1) := by decide +kernel
theorem dX10_end_15 : decode cX10_end 15 = .ok (.iload_n 1, 1) := by decide +kernel
theorem dX10_end_16 : decode cX10_end 16 = .ok (.putfield 38, 3) := by decide +kernel
theorem dX10_end_19 : decode cX10_end 19 = .ok (.iconst 1, 1) := by decide +kernel
theorem dX10_end_20 : decode cX10_end 20 = .ok (.ireturn, 1) := by decide +kernel
theorem dX10_text_0 : decode cX10_text 0 = .ok (.aload_n 0, 1) := by decide +kernel
theorem dX10_text_1 : decode cX10_text 1 = .ok (.getfield 38, 3) := by decide +kernel
theorem dX10_text_4 : decode cX10_text 4 = .ok (.istore_n 2, 1) := by decide +kernel
theorem dX10_text_5 : decode cX10_text 5 = .ok (.aload_n 0, 1) := by decide +kernel
theorem dX10_text_6 : decode cX10_text 6 = .ok (.iconst 0, 1) := by decide +kernel
theorem dX10_text_7 : decode cX10_text 7 = .ok (.putfield 38, 3) := by decide +kernel
theorem dX10_text_10 : decode cX10_text 10 = .ok (.aload_n 0, 1) := by decide +kernel
theorem dX10_text_11 : decode cX10_text 11 = .ok (.getfield 94, 3) := by decide +kernel
theorem dX10_text_14 : decode cX10_text 14 = .ok (.invokevirtual 252, 3) := by decide +kernel
theorem dX10_text_17 : decode cX10_text 17 = .ok (.iload_n 1, 1) := by decide +kernel
theorem dX10_text_18 : decode cX10_text 18 = .ok (.invokestatic 204, 3) := by decide +kernel
theorem dX10_text_21 : decode cX10_text 21 = .ok (.ifCond .eq 13, 3) := by decide +kernel
theorem dX10_text_24 : decode cX10_text 24 = .ok (.aload_n 0, 1) := by decide +kernel
theorem dX10_text_25 : decode cX10_text 25 = .ok (.getfield 53, 3) := by decide +kernel
theorem dX10_text_28 : decode cX10_text 28 = .ok (.getfield 141, 3) := by decide +kernel
theorem dX10_text_31 : decode cX10_text 31 = .ok (.ifCond .ne 5, 3) := by decide +kernel
theorem dX10_text_34 : decode cX10_text 34 = .ok (.iconst 0, 1) := by decide +kernel
theorem dX10_text_35 : decode cX10_text 35 = .ok (.ireturn, 1) := by decide +kernel
theorem dX10_text_36 : decode cX10_text 36 = .ok (.aload_n 0, 1) := by decide +kernel
theorem dX10_text_37 : decode cX10_text 37 = .ok (.getfield 94, 3) := by decide +kernel
theorem dX10_text_40 : decode cX10_text 40 = .ok (.aload_n 0, 1) := by decide +kernel
theorem dX10_text_41 : decode cX10_text 41 = .ok (.getfield 34, 3) := by decide +kernel
theorem dX10_text_44 : decode cX10_text 44 = .ok (.iload_n 2, 1) := by decide +kernel
theorem dX10_text_45 : decode cX10_text 45 = .ok (.invokevirtual 255, 3) := by decide +kernel
theorem dX10_text_48 : decode cX10_text 48 = .ok (.ifCond .eq 25, 3) := by decide +kernel
theorem dX10_text_51 : decode cX10_text 51 = .ok (.aload_n 0, 1) := by decide +kernel
theorem dX10_text_52 : decode cX10_text 52 = .ok (.getfield 94, 3) := by decide +kernel
theorem dX10_text_55 : decode cX10_text 55 = .ok (.getfield 258, 3) := by decide +kernel
theorem dX10_text_58 : decode cX10_text 58 = .ok (.iconst 0, 1) := by decide +kernel
theorem dX10_text_59 : decode cX10_text 59 = .ok (.aaload, 1) := by decide +kernel
theorem dX10_text_60 : decode cX10_text 60 = .ok (.aload_n 0, 1) := by decide +kernel
theorem dX10_text_61 : decode cX10_text 61 = .ok (.getfield 98, 3) := by decide +kernel
theorem dX10_text_64 : decode cX10_text 64 = .ok (.invokestatic 261, 3) := by decide +kernel
theorem dX10_text_67 : decode cX10_text 67 = .ok (.aload_n 0, 1) := by decide +kernel
theorem dX10_text_68 : decode cX10_text 68 = .ok (.iload_n 1, 1) := by decide +kernel
theorem dX10_text_69 : decode cX10_text 69 = .ok (.invokevirtual 242, 3) := by decide +kernel
theorem dX10_text_72 : decode cX10_text 72 = .ok (.ireturn, 1) := by decide +kernel
theorem dX10_text_73 : decode cX10_text 73 = .ok (.aload_n 0, 1) := by decide +kernel
theorem dX10_text_74 : decode cX10_text 74 = .ok (.getfield 94, 3) := by decide +kernel
theorem dX10_text_77 : decode cX10_text 77 = .ok (.getfield 264, 3) := by decide +kernel
theorem dX10_text_80 : decode cX10_text 80 = .ok (.iconst 5, 1) := by decide +kernel
theorem dX10_text_81 : decode cX10_text 81 = .ok (.if_icmp .ne 16, 3) := by decide +kernel
theorem dX10_text_84 : decode cX10_text 84 = .ok (.aload_n 0, 1) := by decide +kernel
theorem dX10_text_85 : decode cX10_text 85 = .ok (.getfield 12, 3) := by decide +kernel
theorem dX10_text_88 : decode cX10_text 88 = .ok (.getfield 267, 3) := by decide +kernel
theorem dX10_text_91 : decode cX10_text 91 = .ok (.iconst 0, 1) := by decide +kernel
theorem dX10_text_92 : decode cX10_text 92 = .ok (.dup2, 1) := by decide +kernel
theorem dX10_text_93 : decode cX10_text 93 = .ok (.iaload, 1) := by decide +kernel
theorem dX10_text_94 : decode cX10_text 94 = .ok (.iconst 1, 1) := by decide +kernel
theorem dX10_text_95 : decode cX10_text 95 = .ok (.iadd, 1) := by decide +kernel
theorem dX10_text_96 : decode cX10_text 96 = .ok (.iastore, 1) := by decide +kernel
theorem dX10_text_97 : decode cX10_text 97 = .ok (.iconst 0, 1) := by decide +kernel
theorem dX10_text_98 : decode cX10_text 98 = .ok (.ireturn, 1) := by decide +kernel
theorem dX10_fault_0 : decode cX10_fault 0 = .ok (.iload_n 1, 1) := by decide +kernel
theorem dX10_fault_1 : decode cX10_fault 1 = .ok (.lookupswitch 43 #[(0, 27), (1, 35)], 27) := by decide +kernel
theorem dX10_fault_28 : decode cX10_fault 28 = .ok (.aload_n 0, 1) := by decide +kernel
theorem dX10_fault_29 : decode cX10_fault 29 = .ok (.getfield 94, 3) := by decide +kernel
theorem dX10_fault_32 : decode cX10_fault 32 = .ok (.getfield 264, 3) := by decide +kernel
theorem dX10_fault_35 : decode cX10_fault 35 = .ok (.ireturn, 1) := by decide +kernel
theorem dX10_fault_36 : decode cX10_fault 36 = .ok (.aload_n 0, 1) := by decide +kernel
theorem dX10_fault_37 : decode cX10_fault 37 = .ok (.getfield 94, 3) := by decide +kernel
theorem dX10_fault_40 : decode cX10_fault 40 = .ok (.getfield 270, 3) := by decide +kernel
theorem dX10_fault_43 : decode cX10_fault 43 = .ok (.ireturn, 1) := by decide +kernel
theorem dX10_fault_44 : decode cX10_fault 44 = .ok (.iconst (-1), 1) := by decide +kernel
theorem dX10_fault_45 : decode cX10_fault 45 = .ok (.ireturn, 1) := by decide +kernel
theorem dX10_collect_0 : decode cX10_collect 0 = .ok (.aload_n 0, 1) := by decide +kernel
theorem dX10_collect_1 : decode cX10_collect 1 = .ok (.getfield 38, 3) := by decide +kernel
theorem dX10_collect_4 : decode cX10_collect 4 = .ok (.istore_n 1, 1) := by decide +kernel
theorem dX10_collect_5 : decode cX10_collect 5 = .ok (.aload_n 0, 1) := by decide +kernel
theorem dX10_collect_6 : decode cX10_collect 6 = .ok (.iconst 0, 1) := by decide +kernel
theorem dX10_collect_7 : decode cX10_collect 7 = .ok (.putfield 38, 3) := by decide +kernel
theorem dX10_collect_10 : decode cX10_collect 10 = .ok (.iload_n 1, 1) := by decide +kernel
theorem dX10_collect_11 : decode cX10_collect 11 = .ok (.bipush 24, 2) := by decide +kernel
theorem dX10_collect_13 : decode cX10_collect 13 = .ok (.if_icmp .le 5, 3) := by decide +kernel
theorem dX10_collect_16 : decode cX10_collect 16 = .ok (.iconst (-1), 1) := by decide +kernel
theorem dX10_collect_17 : decode cX10_collect 17 = .ok (.ireturn, 1) := by decide +kernel
theorem dX10_collect_18 : decode cX10_collect 18 = .ok (.aload_n 0, 1) := by decide +kernel
theorem dX10_collect_19 : decode cX10_collect 19 = .ok (.getfield 44, 3) := by decide +kernel
theorem dX10_collect_22 : decode cX10_collect 22 = .ok (.invokevirtual 273, 3) := by decide +kernel
theorem dX10_collect_25 : decode cX10_collect 25 = .ok (.iconst 0, 1) := by decide +kernel
theorem dX10_collect_26 : decode cX10_collect 26 = .ok (.istore_n 2, 1) := by decide +kernel
theorem dX10_collect_27 : decode cX10_collect 27 = .ok (.iload_n 2, 1) := by decide +kernel
theorem dX10_collect_28 : decode cX10_collect 28 = .ok (.iload_n 1, 1) := by decide +kernel
theorem dX10_collect_29 : decode cX10_collect 29 = .ok (.if_icmp .ge 47, 3) := by decide +kernel
theorem dX10_collect_32 : decode cX10_collect 32 = .ok (.aload_n 0, 1) := by decide +kernel
theorem dX10_collect_33 : decode cX10_collect 33 = .ok (.getfield 34, 3) := by decide +kernel
theorem dX10_collect_36 : decode cX10_collect 36 = .ok (.iload_n 2, 1) := by decide +kernel
theorem dX10_collect_37 : decode cX10_collect 37 = .ok (.iaload, 1) := by decide +kernel
theorem dX10_collect_38 : decode cX10_collect 38 = .ok (.bipush 97, 2) := by decide +kernel
theorem dX10_collect_40 : decode cX10_collect 40 = .ok (.isub, 1) := by decide +kernel
theorem dX10_collect_41 : decode cX10_collect 41 = .ok (.istore_n 3, 1) := by decide +kernel
theorem dX10_collect_42 : decode cX10_collect 42 = .ok (.iload_n 3, 1) := by decide +kernel
theorem dX10_collect_43 : decode cX10_collect 43 = .ok (.ifCond .lt 17, 3) := by decide +kernel
theorem dX10_collect_46 : decode cX10_collect 46 = .ok (.iload_n 3, 1) := by decide +kernel
theorem dX10_collect_47 : decode cX10_collect 47 = .ok (.aload_n 0, 1) := by decide +kernel
theorem dX10_collect_48 : decode cX10_collect 48 = .ok (.getfield 12, 3) := by decide +kernel
theorem dX10_collect_51 : decode cX10_collect 51 = .ok (.getfield 105, 3) := by decide +kernel
theorem dX10_collect_54 : decode cX10_collect 54 = .ok (.getfield 178, 3) := by decide +kernel
theorem dX10_collect_57 : decode cX10_collect 57 = .ok (.if_icmp .lt 5, 3) := by decide +kernel
theorem dX10_collect_60 : decode cX10_collect 60 = .ok (.iconst (-1), 1) := by decide +kernel
theorem dX10_collect_61 : decode cX10_collect 61 = .ok (.ireturn, 1) := by decide +kernel
theorem dX10_collect_62 : decode cX10_collect 62 = .ok (.aload_n 0, 1) := by decide +kernel
theorem dX10_collect_63 : decode cX10_collect 63 = .ok (.getfield 44, 3) := by decide +kernel
theorem dX10_collect_66 : decode cX10_collect 66 = .ok (.iload_n 3, 1) := by decide +kernel
theorem dX10_collect_67 : decode cX10_collect 67 = .ok (.invokevirtual 276, 3) := by decide +kernel
theorem dX10_collect_70 : decode cX10_collect 70 = .ok (.iinc 2 1, 3) := by decide +kernel
theorem dX10_collect_73 : decode cX10_collect 73 = .ok (.goto (-46), 3) := by decide +kernel
theorem dX10_collect_76 : decode cX10_collect 76 = .ok (.aload_n 0, 1) := by decide +kernel
theorem dX10_collect_77 : decode cX10_collect 77 = .ok (.getfield 44, 3) := by decide +kernel
theorem dX10_collect_80 : decode cX10_collect 80 = .ok (.aload_n 0, 1) := by decide +kernel
theorem dX10_collect_81 : decode cX10_collect 81 = .ok (.getfield 12, 3) := by decide +kernel
theorem dX10_collect_84 : decode cX10_collect 84 = .ok (.getfield 105, 3) := by decide +kernel
theorem dX10_collect_87 : decode cX10_collect 87 = .ok (.sipush 1000, 3) := by decide +kernel
theorem dX10_collect_90 : decode cX10_collect 90 = .ok (.invokevirtual 279, 3) := by decide +kernel
theorem dX10_collect_93 : decode cX10_collect 93 = .ok (.istore_n 2, 1) := by decide +kernel
theorem dX10_collect_94 : decode cX10_collect 94 = .ok (.iload_n 2, 1) := by decide +kernel
theorem dX10_collect_95 : decode cX10_collect 95 = .ok (.iconst (-1), 1) := by decide +kernel
theorem dX10_collect_96 : decode cX10_collect 96 = .ok (.if_icmp .ne 6, 3) := by decide +kernel
theorem dX10_collect_99 : decode cX10_collect 99 = .ok (.bipush (-2), 2) := by decide +kernel
theorem dX10_collect_101 : decode cX10_collect 101 = .ok (.ireturn, 1) := by decide +kernel
theorem dX10_collect_102 : decode cX10_collect 102 = .ok (.aload_n 0, 1) := by decide +kernel
theorem dX10_collect_103 : decode cX10_collect 103 = .ok (.getfield 12, 3) := by decide +kernel
theorem dX10_collect_106 : decode cX10_collect 106 = .ok (.getfield 267, 3) := by decide +kernel
theorem dX10_collect_109 : decode cX10_collect 109 = .ok (.iconst 1, 1) := by decide +kernel
theorem dX10_collect_110 : decode cX10_collect 110 = .ok (.aload_n 0, 1) := by decide +kernel
theorem dX10_collect_111 : decode cX10_collect 111 = .ok (.getfield 12, 3) := by decide +kernel
theorem dX10_collect_114 : decode cX10_collect 114 = .ok (.getfield 105, 3) := by decide +kernel
theorem dX10_collect_117 : decode cX10_collect 117 = .ok (.getfield 178, 3) := by decide +kernel
theorem dX10_collect_120 : decode cX10_collect 120 = .ok (.iastore, 1) := by decide +kernel
theorem dX10_collect_121 : decode cX10_collect 121 = .ok (.aload_n 0, 1) := by decide +kernel
theorem dX10_collect_122 : decode cX10_collect 122 = .ok (.getfield 44, 3) := by decide +kernel
theorem dX10_collect_125 : decode cX10_collect 125 = .ok (.getfield 283, 3) := by decide +kernel
theorem dX10_collect_128 : decode cX10_collect 128 = .ok (.iconst 0, 1) := by decide +kernel
theorem dX10_collect_129 : decode cX10_collect 129 = .ok (.aload_n 0, 1) := by decide +kernel
theorem dX10_collect_130 : decode cX10_collect 130 = .ok (.getfield 12, 3) := by decide +kernel
theorem dX10_collect_133 : decode cX10_collect 133 = .ok (.getfield 267, 3) := by decide +kernel
theorem dX10_collect_136 : decode cX10_collect 136 = .ok (.iconst 2, 1) := by decide +kernel
theorem dX10_collect_137 : decode cX10_collect 137 = .ok (.bipush 6, 2) := by decide +kernel
theorem dX10_collect_139 : decode cX10_collect 139 = .ok (.invokestatic 286, 3) := by decide +kernel
theorem dX10_collect_142 : decode cX10_collect 142 = .ok (.iload_n 2, 1) := by decide +kernel
theorem dX10_collect_143 : decode cX10_collect 143 = .ok (.ireturn, 1) := by decide +kernel
theorem dX10_collected_0 : decode cX10_collected 0 = .ok (.iload_n 1, 1) := by decide +kernel
theorem dX10_collected_1 : decode cX10_collected 1 = .ok (.iconst 1, 1) := by decide +kernel
theorem dX10_collected_2 : decode cX10_collected 2 = .ok (.if_icmp .lt 22, 3) := by decide +kernel
theorem dX10_collected_5 : decode cX10_collected 5 = .ok (.iload_n 1, 1) := by decide +kernel
theorem dX10_collected_6 : decode cX10_collected 6 = .ok (.aload_n 0, 1) := by decide +kernel
theorem dX10_collected_7 : decode cX10_collected 7 = .ok (.getfield 12, 3) := by decide +kernel
theorem dX10_collected_10 : decode cX10_collected 10 = .ok (.getfield 267, 3) := by decide +kernel
theorem dX10_collected_13 : decode cX10_collected 13 = .ok (.iconst 1, 1) := by decide +kernel
theorem dX10_collected_14 : decode cX10_collected 14 = .ok (.iaload, 1) := by decide +kernel
theorem dX10_collected_15 : decode cX10_collected 15 = .ok (.if_icmp .gt 9, 3) := by decide +kernel
theorem dX10_collected_18 : decode cX10_collected 18 = .ok (.iload_n 1, 1) := by decide +kernel
theorem dX10_collected_19 : decode cX10_collected 19 = .ok (.bipush 6, 2) := by decide +kernel
theorem dX10_collected_21 : decode cX10_collected 21 = .ok (.if_icmp .le 5, 3) := by decide +kernel
theorem dX10_collected_24 : decode cX10_collected 24 = .ok (.iconst (-1), 1) := by decide +kernel
theorem dX10_collected_25 : decode cX10_collected 25 = .ok (.ireturn, 1) := by decide +kernel
theorem dX10_collected_26 : decode cX10_collected 26 = .ok (.aload_n 0, 1) := by decide +kernel
theorem dX10_collected_27 : decode cX10_collected 27 = .ok (.getfield 12, 3) := by decide +kernel
theorem dX10_collected_30 : decode cX10_collected 30 = .ok (.getfield 267, 3) := by decide +kernel
theorem dX10_collected_33 : decode cX10_collected 33 = .ok (.iconst 2, 1) := by decide +kernel
theorem dX10_collected_34 : decode cX10_collected 34 = .ok (.iload_n 1, 1) := by decide +kernel
theorem dX10_collected_35 : decode cX10_collected 35 = .ok (.iadd, 1) := by decide +kernel
theorem dX10_collected_36 : decode cX10_collected 36 = .ok (.iconst 1, 1) := by decide +kernel
theorem dX10_collected_37 : decode cX10_collected 37 = .ok (.isub, 1) := by decide +kernel
theorem dX10_collected_38 : decode cX10_collected 38 = .ok (.iaload, 1) := by decide +kernel
theorem dX10_collected_39 : decode cX10_collected 39 = .ok (.ireturn, 1) := by decide +kernel
theorem dX10_exponent_0 : decode cX10_exponent 0 = .ok (.iload_n 1, 1) := by decide +kernel
theorem dX10_exponent_1 : decode cX10_exponent 1 = .ok (.invokestatic 204, 3) := by decide +kernel
theorem dX10_exponent_4 : decode cX10_exponent 4 = .ok (.ifCond .eq 11, 3) := by decide +kernel
theorem dX10_exponent_7 : decode cX10_exponent 7 = .ok (.aload_n 0, 1) := by decide +kernel
theorem dX10_exponent_8 : decode cX10_exponent 8 = .ok (.iload_n 2, 1) := by decide +kernel
theorem dX10_exponent_9 : decode cX10_exponent 9 = .ok (.invokevirtual 148, 3) := by decide +kernel
theorem dX10_exponent_12 : decode cX10_exponent 12 = .ok (.ifCond .ne 7, 3) := by decide +kernel
theorem dX10_exponent_15 : decode cX10_exponent 15 = .ok (.sipush (-10000), 3) := by decide +kernel
theorem dX10_exponent_18 : decode cX10_exponent 18 = .ok (.ireturn, 1) := by decide +kernel
theorem dX10_exponent_19 : decode cX10_exponent 19 = .ok (.aload_n 0, 1) := by decide +kernel
theorem dX10_exponent_20 : decode cX10_exponent 20 = .ok (.getfield 12, 3) := by decide +kernel
theorem dX10_exponent_23 : decode cX10_exponent 23 = .ok (.getfield 210, 3) := by decide +kernel
theorem dX10_exponent_26 : decode cX10_exponent 26 = .ok (.iload_n 1, 1) := by decide +kernel
theorem dX10_exponent_27 : decode cX10_exponent 27 = .ok (.aaload, 1) := by decide +kernel
theorem dX10_exponent_28 : decode cX10_exponent 28 = .ok (.iload_n 2, 1) := by decide +kernel
theorem dX10_exponent_29 : decode cX10_exponent 29 = .ok (.iconst 1, 1) := by decide +kernel
theorem dX10_exponent_30 : decode cX10_exponent 30 = .ok (.isub, 1) := by decide +kernel
theorem dX10_exponent_31 : decode cX10_exponent 31 = .ok (.laload, 1) := by decide +kernel
theorem dX10_exponent_32 : decode cX10_exponent 32 = .ok (.l2i, 1) := by decide +kernel
theorem dX10_exponent_33 : decode cX10_exponent 33 = .ok (.ireturn, 1) := by decide +kernel
theorem dX10_register_0 : decode cX10_register 0 = .ok (.iload_n 1, 1) := by decide +kernel
theorem dX10_register_1 : decode cX10_register 1 = .ok (.invokestatic 204, 3) := by decide +kernel
theorem dX10_register_4 : decode cX10_register 4 = .ok (.ifCond .eq 13, 3) := by decide +kernel
theorem dX10_register_7 : decode cX10_register 7 = .ok (.aload_n 0, 1) := by decide +kernel
theorem dX10_register_8 : decode cX10_register 8 = .ok (.getfield 53, 3) := by decide +kernel
theorem dX10_register_11 : decode cX10_register 11 = .ok (.getfield 141, 3) := by decide +kernel
theorem dX10_register_14 : decode cX10_register 14 = .ok (.ifCond .ne 5, 3) := by decide +kernel
theorem dX10_register_17 : decode cX10_register 17 = .ok (.iconst (-1), 1) := by decide +kernel
theorem dX10_register_18 : decode cX10_register 18 = .ok (.ireturn, 1) := by decide +kernel
theorem dX10_register_19 : decode cX10_register 19 = .ok (.aload_n 0, 1) := by decide +kernel
theorem dX10_register_20 : decode cX10_register 20 = .ok (.getfield 12, 3) := by decide +kernel
theorem dX10_register_23 : decode cX10_register 23 = .ok (.getfield 210, 3) := by decide +kernel
theorem dX10_register_26 : decode cX10_register 26 = .ok (.iload_n 1, 1) := by decide +kernel
theorem dX10_register_27 : decode cX10_register 27 = .ok (.aaload, 1) := by decide +kernel
theorem dX10_register_28 : decode cX10_register 28 = .ok (.astore_n 3, 1) := by decide +kernel
theorem dX10_register_29 : decode cX10_register 29 = .ok (.iload_n 2, 1) := by decide +kernel
theorem dX10_register_30 : decode cX10_register 30 = .ok (.tableswitch 105 0 7 #[46, 52, 61, 69, 78, 84, 90, 97], 46) := by decide +kernel
theorem dX10_register_76 : decode cX10_register 76 = .ok (.aload_n 0, 1) := by decide +kernel
theorem dX10_register_77 : decode cX10_register 77 = .ok (.aload_n 3, 1) := by decide +kernel
theorem dX10_register_78 : decode cX10_register 78 = .ok (.invokevirtual 292, 3) := by decide +kernel
theorem dX10_register_81 : decode cX10_register 81 = .ok (.ireturn, 1) := by decide +kernel
theorem dX10_register_82 : decode cX10_register 82 = .ok (.aload_n 0, 1) := by decide +kernel
theorem dX10_register_83 : decode cX10_register 83 = .ok (.aload_n 3, 1) := by decide +kernel
theorem dX10_register_84 : decode cX10_register 84 = .ok (.invokevirtual 296, 3) := by decide +kernel
theorem dX10_register_87 : decode cX10_register 87 = .ok (.invokestatic 144, 3) := by decide +kernel
theorem dX10_register_90 : decode cX10_register 90 = .ok (.ireturn, 1) := by decide +kernel
theorem dX10_register_91 : decode cX10_register 91 = .ok (.aload_n 3, 1) := by decide +kernel
theorem dX10_register_92 : decode cX10_register 92 = .ok (.invokestatic 300, 3) := by decide +kernel
theorem dX10_register_95 : decode cX10_register 95 = .ok (.invokestatic 144, 3) := by decide +kernel
theorem dX10_register_98 : decode cX10_register 98 = .ok (.ireturn, 1) := by decide +kernel
theorem dX10_register_99 : decode cX10_register 99 = .ok (.aload_n 0, 1) := by decide +kernel
theorem dX10_register_100 : decode cX10_register 100 = .ok (.getfield 78, 3) := by decide +kernel
theorem dX10_register_103 : decode cX10_register 103 = .ok (.aload_n 3, 1) := by decide +kernel
theorem dX10_register_104 : decode cX10_register 104 = .ok (.invokevirtual 303, 3) := by decide +kernel
theorem dX10_register_107 : decode cX10_register 107 = .ok (.ireturn, 1) := by decide +kernel
theorem dX10_register_108 : decode cX10_register 108 = .ok (.aload_n 0, 1) := by decide +kernel
theorem dX10_register_109 : decode cX10_register 109 = .ok (.aload_n 3, 1) := by decide +kernel
theorem dX10_register_110 : decode cX10_register 110 = .ok (.invokevirtual 306, 3) := by decide +kernel
theorem dX10_register_113 : decode cX10_register 113 = .ok (.ireturn, 1) := by decide +kernel
theorem dX10_register_114 : decode cX10_register 114 = .ok (.aload_n 0, 1) := by decide +kernel
theorem dX10_register_115 : decode cX10_register 115 = .ok (.aload_n 3, 1) := by decide +kernel
theorem dX10_register_116 : decode cX10_register 116 = .ok (.invokevirtual 309, 3) := by decide +kernel
theorem dX10_register_119 : decode cX10_register 119 = .ok (.ireturn, 1) := by decide +kernel
theorem dX10_register_120 : decode cX10_register 120 = .ok (.aload_n 0, 1) := by decide +kernel
theorem dX10_register_121 : decode cX10_register 121 = .ok (.aload_n 3, 1) := by decide +kernel
theorem dX10_register_122 : decode cX10_register 122 = .ok (.iconst 1, 1) := by decide +kernel
theorem dX10_register_123 : decode cX10_register 123 = .ok (.invokevirtual 312, 3) := by decide +kernel
theorem dX10_register_126 : decode cX10_register 126 = .ok (.ireturn, 1) := by decide +kernel
theorem dX10_register_127 : decode cX10_register 127 = .ok (.aload_n 0, 1) := by decide +kernel
theorem dX10_register_128 : decode cX10_register 128 = .ok (.aload_n 3, 1) := by decide +kernel
theorem dX10_register_129 : decode cX10_register 129 = .ok (.bipush 99, 2) := by decide +kernel
theorem dX10_register_131 : decode cX10_register 131 = .ok (.invokevirtual 312, 3) := by decide +kernel
theorem dX10_register_134 : decode cX10_register 134 = .ok (.ireturn, 1) := by decide +kernel
theorem dX10_register_135 : decode cX10_register 135 = .ok (.iconst (-1), 1) := by decide +kernel
theorem dX10_register_136 : decode cX10_register 136 = .ok (.ireturn, 1) := by decide +kernel
theorem dX10_both_0 : decode cX10_both 0 = .ok (.aload_n 0, 1) := by decide +kernel
theorem dX10_both_1 : decode cX10_both 1 = .ok (.iload_n 1, 1) := by decide +kernel
theorem dX10_both_2 : decode cX10_both 2 = .ok (.iload_n 2, 1) := by decide +kernel
theorem dX10_both_3 : decode cX10_both 3 = .ok (.invokevirtual 214, 3) := by decide +kernel
theorem dX10_both_6 : decode cX10_both 6 = .ok (.ifCond .ne 5, 3) := by decide +kernel
theorem dX10_both_9 : decode cX10_both 9 = .ok (.iconst (-1), 1) := by decide +kernel
theorem dX10_both_10 : decode cX10_both 10 = .ok (.ireturn, 1) := by decide +kernel
theorem dX10_both_11 : decode cX10_both 11 = .ok (.aload_n 0, 1) := by decide +kernel
theorem dX10_both_12 : decode cX10_both 12 = .ok (.getfield 12, 3) := by decide +kernel
theorem dX10_both_15 : decode cX10_both 15 = .ok (.getfield 210, 3) := by decide +kernel
theorem dX10_both_18 : decode cX10_both 18 = .ok (.iload_n 1, 1) := by decide +kernel
theorem dX10_both_19 : decode cX10_both 19 = .ok (.aaload, 1) := by decide +kernel
theorem dX10_both_20 : decode cX10_both 20 = .ok (.astore 4, 2) := by decide +kernel
theorem dX10_both_22 : decode cX10_both 22 = .ok (.aload_n 0, 1) := by decide +kernel
theorem dX10_both_23 : decode cX10_both 23 = .ok (.getfield 12, 3) := by decide +kernel
theorem dX10_both_26 : decode cX10_both 26 = .ok (.getfield 210, 3) := by decide +kernel
theorem dX10_both_29 : decode cX10_both 29 = .ok (.iload_n 2, 1) := by decide +kernel
theorem dX10_both_30 : decode cX10_both 30 = .ok (.aaload, 1) := by decide +kernel
theorem dX10_both_31 : decode cX10_both 31 = .ok (.astore 5, 2) := by decide +kernel
theorem dX10_both_33 : decode cX10_both 33 = .ok (.iload_n 3, 1) := by decide +kernel
theorem dX10_both_34 : decode cX10_both 34 = .ok (.tableswitch 74 0 2 #[26, 41, 65], 26) := by decide +kernel
theorem dX10_both_60 : decode cX10_both 60 = .ok (.aload_n 0, 1) := by decide +kernel
theorem dX10_both_61 : decode cX10_both 61 = .ok (.getfield 62, 3) := by decide +kernel
theorem dX10_both_64 : decode cX10_both 64 = .ok (.aload 4, 2) := by decide +kernel
theorem dX10_both_66 : decode cX10_both 66 = .ok (.aload 5, 2) := by decide +kernel
theorem dX10_both_68 : decode cX10_both 68 = .ok (.invokevirtual 316, 3) := by decide +kernel
theorem dX10_both_71 : decode cX10_both 71 = .ok (.invokestatic 144, 3) := by decide +kernel
theorem dX10_both_74 : decode cX10_both 74 = .ok (.ireturn, 1) := by decide +kernel
theorem dX10_both_75 : decode cX10_both 75 = .ok (.aload_n 0, 1) := by decide +kernel
theorem dX10_both_76 : decode cX10_both 76 = .ok (.getfield 62, 3) := by decide +kernel
theorem dX10_both_79 : decode cX10_both 79 = .ok (.aload_n 0, 1) := by decide +kernel
theorem dX10_both_80 : decode cX10_both 80 = .ok (.getfield 98, 3) := by decide +kernel
theorem dX10_both_83 : decode cX10_both 83 = .ok (.aload 4, 2) := by decide +kernel
theorem dX10_both_85 : decode cX10_both 85 = .ok (.aload 5, 2) := by decide +kernel
theorem dX10_both_87 : decode cX10_both 87 = .ok (.invokevirtual 232, 3) := by decide +kernel
theorem dX10_both_90 : decode cX10_both 90 = .ok (.aload_n 0, 1) := by decide +kernel
theorem dX10_both_91 : decode cX10_both 91 = .ok (.aload_n 0, 1) := by decide +kernel
theorem dX10_both_92 : decode cX10_both 92 = .ok (.getfield 98, 3) := by decide +kernel
theorem dX10_both_95 : decode cX10_both 95 = .ok (.invokevirtual 292, 3) := by decide +kernel
theorem dX10_both_98 : decode cX10_both 98 = .ok (.ireturn, 1) := by decide +kernel
theorem dX10_both_99 : decode cX10_both 99 = .ok (.aload_n 0, 1) := by decide +kernel
theorem dX10_both_100 : decode cX10_both 100 = .ok (.aload 4, 2) := by decide +kernel
theorem dX10_both_102 : decode cX10_both 102 = .ok (.aload 5, 2) := by decide +kernel
theorem dX10_both_104 : decode cX10_both 104 = .ok (.invokevirtual 320, 3) := by decide +kernel
theorem dX10_both_107 : decode cX10_both 107 = .ok (.ireturn, 1) := by decide +kernel
theorem dX10_both_108 : decode cX10_both 108 = .ok (.iconst (-1), 1) := by decide +kernel
theorem dX10_both_109 : decode cX10_both 109 = .ok (.ireturn, 1) := by decide +kernel
theorem dX10_alike_0 : decode cX10_alike 0 = .ok (.aload_n 0, 1) := by decide +kernel
theorem dX10_alike_1 : decode cX10_alike 1 = .ok (.iload_n 1, 1) := by decide +kernel
theorem dX10_alike_2 : decode cX10_alike 2 = .ok (.iload_n 2, 1) := by decide +kernel
theorem dX10_alike_3 : decode cX10_alike 3 = .ok (.invokevirtual 214, 3) := by decide +kernel
theorem dX10_alike_6 : decode cX10_alike 6 = .ok (.ifCond .ne 5, 3) := by decide +kernel
theorem dX10_alike_9 : decode cX10_alike 9 = .ok (.iconst (-1), 1) := by decide +kernel
theorem dX10_alike_10 : decode cX10_alike 10 = .ok (.ireturn, 1) := by decide +kernel
theorem dX10_alike_11 : decode cX10_alike 11 = .ok (.aload_n 0, 1) := by decide +kernel
theorem dX10_alike_12 : decode cX10_alike 12 = .ok (.getfield 12, 3) := by decide +kernel
theorem dX10_alike_15 : decode cX10_alike 15 = .ok (.getfield 210, 3) := by decide +kernel
theorem dX10_alike_18 : decode cX10_alike 18 = .ok (.iload_n 1, 1) := by decide +kernel
theorem dX10_alike_19 : decode cX10_alike 19 = .ok (.aaload, 1) := by decide +kernel
theorem dX10_alike_20 : decode cX10_alike 20 = .ok (.astore_n 3, 1) := by decide +kernel
theorem dX10_alike_21 : decode cX10_alike 21 = .ok (.aload_n 0, 1) := by decide +kernel
theorem dX10_alike_22 : decode cX10_alike 22 = .ok (.getfield 12, 3) := by decide +kernel
theorem dX10_alike_25 : decode cX10_alike 25 = .ok (.getfield 210, 3) := by decide +kernel
theorem dX10_alike_28 : decode cX10_alike 28 = .ok (.iload_n 2, 1) := by decide +kernel
theorem dX10_alike_29 : decode cX10_alike 29 = .ok (.aaload, 1) := by decide +kernel
theorem dX10_alike_30 : decode cX10_alike 30 = .ok (.astore 4, 2) := by decide +kernel
theorem dX10_alike_32 : decode cX10_alike 32 = .ok (.aload_n 3, 1) := by decide +kernel
theorem dX10_alike_33 : decode cX10_alike 33 = .ok (.ldc2_w 324, 3) := by decide +kernel
theorem dX10_alike_36 : decode cX10_alike 36 = .ok (.invokestatic 326, 3) := by decide +kernel
theorem dX10_alike_39 : decode cX10_alike 39 = .ok (.ifCond .eq 14, 3) := by decide +kernel
theorem dX10_alike_42 : decode cX10_alike 42 = .ok (.aload 4, 2) := by decide +kernel
theorem dX10_alike_44 : decode cX10_alike 44 = .ok (.ldc2_w 324, 3) := by decide +kernel
theorem dX10_alike_47 : decode cX10_alike 47 = .ok (.invokestatic 326, 3) := by decide +kernel
theorem dX10_alike_50 : decode cX10_alike 50 = .ok (.ifCond .ne 6, 3) := by decide +kernel
theorem dX10_alike_53 : decode cX10_alike 53 = .ok (.bipush (-2), 2) := by decide +kernel
theorem dX10_alike_55 : decode cX10_alike 55 = .ok (.ireturn, 1) := by decide +kernel
theorem dX10_alike_56 : decode cX10_alike 56 = .ok (.aload_n 0, 1) := by decide +kernel
theorem dX10_alike_57 : decode cX10_alike 57 = .ok (.getfield 69, 3) := by decide +kernel
theorem dX10_alike_60 : decode cX10_alike 60 = .ok (.aload_n 3, 1) := by decide +kernel
theorem dX10_alike_61 : decode cX10_alike 61 = .ok (.aload 4, 2) := by decide +kernel
theorem dX10_alike_63 : decode cX10_alike 63 = .ok (.invokevirtual 330, 3) := by decide +kernel
theorem dX10_alike_66 : decode cX10_alike 66 = .ok (.invokestatic 144, 3) := by decide +kernel
theorem dX10_alike_69 : decode cX10_alike 69 = .ok (.ireturn, 1) := by decide +kernel
theorem dX10_powers_0 : decode cX10_powers 0 = .ok (.iload_n 1, 1) := by decide +kernel
theorem dX10_powers_1 : decode cX10_powers 1 = .ok (.invokestatic 204, 3) := by decide +kernel
theorem dX10_powers_4 : decode cX10_powers 4 = .ok (.ifCond .eq 30, 3) := by decide +kernel
theorem dX10_powers_7 : decode cX10_powers 7 = .ok (.aload_n 0, 1) := by decide +kernel
theorem dX10_powers_8 : decode cX10_powers 8 = .ok (.iload_n 2, 1) := by decide +kernel
theorem dX10_powers_9 : decode cX10_powers 9 = .ok (.invokevirtual 148, 3) := by decide +kernel
theorem dX10_powers_12 : decode cX10_powers 12 = .ok (.ifCond .eq 22, 3) := by decide +kernel
theorem dX10_powers_15 : decode cX10_powers 15 = .ok (.iload_n 3, 1) := by decide +kernel
theorem dX10_powers_16 : decode cX10_powers 16 = .ok (.ifCond .lt 18, 3) := by decide +kernel
theorem dX10_powers_19 : decode cX10_powers 19 = .ok (.iload_n 3, 1) := by decide +kernel
theorem dX10_powers_20 : decode cX10_powers 20 = .ok (.iconst 3, 1) := by decide +kernel
theorem dX10_powers_21 : decode cX10_powers 21 = .ok (.if_icmp .gt 13, 3) := by decide +kernel
theorem dX10_powers_24 : decode cX10_powers 24 = .ok (.aload_n 0, 1) := by decide +kernel
theorem dX10_powers_25 : decode cX10_powers 25 = .ok (.getfield 53, 3) := by decide +kernel
theorem dX10_powers_28 : decode cX10_powers 28 = .ok (.getfield 141, 3) := by decide +kernel
theorem dX10_powers_31 : decode cX10_powers 31 = .ok (.ifCond .ne 7, 3) := by decide +kernel
theorem dX10_powers_34 : decode cX10_powers 34 = .ok (.ldc2_w 333, 3) := by decide +kernel
theorem dX10_powers_37 : decode cX10_powers 37 = .ok (.lreturn, 1) := by decide +kernel
theorem dX10_powers_38 : decode cX10_powers 38 = .ok (.aload_n 0, 1) := by decide +kernel
theorem dX10_powers_39 : decode cX10_powers 39 = .ok (.getfield 62, 3) := by decide +kernel
theorem dX10_powers_42 : decode cX10_powers 42 = .ok (.aload_n 0, 1) := by decide +kernel
theorem dX10_powers_43 : decode cX10_powers 43 = .ok (.getfield 12, 3) := by decide +kernel
theorem dX10_powers_46 : decode cX10_powers 46 = .ok (.getfield 210, 3) := by decide +kernel
theorem dX10_powers_49 : decode cX10_powers 49 = .ok (.iload_n 1, 1) := by decide +kernel
theorem dX10_powers_50 : decode cX10_powers 50 = .ok (.aaload, 1) := by decide +kernel
theorem dX10_powers_51 : decode cX10_powers 51 = .ok (.invokevirtual 335, 3) := by decide +kernel
theorem dX10_powers_54 : decode cX10_powers 54 = .ok (.aload_n 0, 1) := by decide +kernel
theorem dX10_powers_55 : decode cX10_powers 55 = .ok (.getfield 62, 3) := by decide +kernel
theorem dX10_powers_58 : decode cX10_powers 58 = .ok (.iload_n 2, 1) := by decide +kernel
theorem dX10_powers_59 : decode cX10_powers 59 = .ok (.iconst 1, 1) := by decide +kernel
theorem dX10_powers_60 : decode cX10_powers 60 = .ok (.isub, 1) := by decide +kernel
theorem dX10_powers_61 : decode cX10_powers 61 = .ok (.iload_n 3, 1) := by decide +kernel
theorem dX10_powers_62 : decode cX10_powers 62 = .ok (.invokevirtual 339, 3) := by decide +kernel
theorem dX10_powers_65 : decode cX10_powers 65 = .ok (.lreturn, 1) := by decide +kernel
theorem dX10_associates_0 : decode cX10_associates 0 = .ok (.aload_n 0, 1) := by decide +kernel
theorem dX10_associates_1 : decode cX10_associates 1 = .ok (.iload_n 1, 1) := by decide +kernel
theorem dX10_associates_2 : decode cX10_associates 2 = .ok (.iload_n 2, 1) := by decide +kernel
theorem dX10_associates_3 : decode cX10_associates 3 = .ok (.invokevirtual 214, 3) := by decide +kernel
theorem dX10_associates_6 : decode cX10_associates 6 = .ok (.ifCond .eq 10, 3) := by decide +kernel
theorem dX10_associates_9 : decode cX10_associates 9 = .ok (.iload_n 3, 1) := by decide +kernel
theorem dX10_associates_10 : decode cX10_associates 10 = .ok (.invokestatic 204, 3) := by decide +kernel
theorem dX10_associates_13 : decode cX10_associates 13 = .ok (.ifCond .ne 5, 3) := by decide +kernel
theorem dX10_associates_16 : decode cX10_associates 16 = .ok (.iconst (-1), 1) := by decide +kernel
theorem dX10_associates_17 : decode cX10_associates 17 = .ok (.ireturn, 1) := by decide +kernel
theorem dX10_associates_18 : decode cX10_associates 18 = .ok (.aload_n 0, 1) := by decide +kernel
theorem dX10_associates_19 : decode cX10_associates 19 = .ok (.getfield 62, 3) := by decide +kernel
theorem dX10_associates_22 : decode cX10_associates 22 = .ok (.aload_n 0, 1) := by decide +kernel
theorem dX10_associates_23 : decode cX10_associates 23 = .ok (.getfield 98, 3) := by decide +kernel
theorem dX10_associates_26 : decode cX10_associates 26 = .ok (.aload_n 0, 1) := by decide +kernel
theorem dX10_associates_27 : decode cX10_associates 27 = .ok (.getfield 12, 3) := by decide +kernel
theorem dX10_associates_30 : decode cX10_associates 30 = .ok (.getfield 210, 3) := by decide +kernel
theorem dX10_associates_33 : decode cX10_associates 33 = .ok (.iload_n 1, 1) := by decide +kernel
theorem dX10_associates_34 : decode cX10_associates 34 = .ok (.aaload, 1) := by decide +kernel
theorem dX10_associates_35 : decode cX10_associates 35 = .ok (.aload_n 0, 1) := by decide +kernel
theorem dX10_associates_36 : decode cX10_associates 36 = .ok (.getfield 12, 3) := by decide +kernel
theorem dX10_associates_39 : decode cX10_associates 39 = .ok (.getfield 210, 3) := by decide +kernel
theorem dX10_associates_42 : decode cX10_associates 42 = .ok (.iload_n 2, 1) := by decide +kernel
theorem dX10_associates_43 : decode cX10_associates 43 = .ok (.aaload, 1) := by decide +kernel
theorem dX10_associates_44 : decode cX10_associates 44 = .ok (.invokevirtual 217, 3) := by decide +kernel
theorem dX10_associates_47 : decode cX10_associates 47 = .ok (.aload_n 0, 1) := by decide +kernel
theorem dX10_associates_48 : decode cX10_associates 48 = .ok (.getfield 62, 3) := by decide +kernel
theorem dX10_associates_51 : decode cX10_associates 51 = .ok (.aload_n 0, 1) := by decide +kernel
theorem dX10_associates_52 : decode cX10_associates 52 = .ok (.getfield 98, 3) := by decide +kernel
theorem dX10_associates_55 : decode cX10_associates 55 = .ok (.aload_n 0, 1) := by decide +kernel
theorem dX10_associates_56 : decode cX10_associates 56 = .ok (.getfield 98, 3) := by decide +kernel
theorem dX10_associates_59 : decode cX10_associates 59 = .ok (.aload_n 0, 1) := by decide +kernel
theorem dX10_associates_60 : decode cX10_associates 60 = .ok (.getfield 12, 3) := by decide +kernel
theorem dX10_associates_63 : decode cX10_associates 63 = .ok (.getfield 210, 3) := by decide +kernel
theorem dX10_associates_66 : decode cX10_associates 66 = .ok (.iload_n 3, 1) := by decide +kernel
theorem dX10_associates_67 : decode cX10_associates 67 = .ok (.aaload, 1) := by decide +kernel
theorem dX10_associates_68 : decode cX10_associates 68 = .ok (.invokevirtual 217, 3) := by decide +kernel
theorem dX10_associates_71 : decode cX10_associates 71 = .ok (.aload_n 0, 1) := by decide +kernel
theorem dX10_associates_72 : decode cX10_associates 72 = .ok (.getfield 62, 3) := by decide +kernel
theorem dX10_associates_75 : decode cX10_associates 75 = .ok (.aload_n 0, 1) := by decide +kernel
theorem dX10_associates_76 : decode cX10_associates 76 = .ok (.getfield 102, 3) := by decide +kernel
theorem dX10_associates_79 : decode cX10_associates 79 = .ok (.aload_n 0, 1) := by decide +kernel
theorem dX10_associates_80 : decode cX10_associates 80 = .ok (.getfield 12, 3) := by decide +kernel
theorem dX10_associates_83 : decode cX10_associates 83 = .ok (.getfield 210, 3) := by decide +kernel
theorem dX10_associates_86 : decode cX10_associates 86 = .ok (.iload_n 2, 1) := by decide +kernel
theorem dX10_associates_87 : decode cX10_associates 87 = .ok (.aaload, 1) := by decide +kernel
theorem dX10_associates_88 : decode cX10_associates 88 = .ok (.aload_n 0, 1) := by decide +kernel
theorem dX10_associates_89 : decode cX10_associates 89 = .ok (.getfield 12, 3) := by decide +kernel
theorem dX10_associates_92 : decode cX10_associates 92 = .ok (.getfield 210, 3) := by decide +kernel
theorem dX10_associates_95 : decode cX10_associates 95 = .ok (.iload_n 3, 1) := by decide +kernel
theorem dX10_associates_96 : decode cX10_associates 96 = .ok (.aaload, 1) := by decide +kernel
theorem dX10_associates_97 : decode cX10_associates 97 = .ok (.invokevirtual 217, 3) := by decide +kernel
theorem dX10_associates_100 : decode cX10_associates 100 = .ok (.aload_n 0, 1) := by decide +kernel
theorem dX10_associates_101 : decode cX10_associates 101 = .ok (.getfield 62, 3) := by decide +kernel
theorem dX10_associates_104 : decode cX10_associates 104 = .ok (.aload_n 0, 1) := by decide +kernel
theorem dX10_associates_105 : decode cX10_associates 105 = .ok (.getfield 102, 3) := by decide +kernel
theorem dX10_associates_108 : decode cX10_associates 108 = .ok (.aload_n 0, 1) := by decide +kernel
theorem dX10_associates_109 : decode cX10_associates 109 = .ok (.getfield 12, 3) := by decide +kernel
theorem dX10_associates_112 : decode cX10_associates 112 = .ok (.getfield 210, 3) := by decide +kernel
theorem dX10_associates_115 : decode cX10_associates 115 = .ok (.iload_n 1, 1) := by decide +kernel
theorem dX10_associates_116 : decode cX10_associates 116 = .ok (.aaload, 1) := by decide +kernel
theorem dX10_associates_117 : decode cX10_associates 117 = .ok (.aload_n 0, 1) := by decide +kernel
theorem dX10_associates_118 : decode cX10_associates 118 = .ok (.getfield 102, 3) := by decide +kernel
theorem dX10_associates_121 : decode cX10_associates 121 = .ok (.invokevirtual 217, 3) := by decide +kernel
theorem dX10_associates_124 : decode cX10_associates 124 = .ok (.aload_n 0, 1) := by decide +kernel
theorem dX10_associates_125 : decode cX10_associates 125 = .ok (.getfield 98, 3) := by decide +kernel
theorem dX10_associates_128 : decode cX10_associates 128 = .ok (.aload_n 0, 1) := by decide +kernel
theorem dX10_associates_129 : decode cX10_associates 129 = .ok (.getfield 102, 3) := by decide +kernel
theorem dX10_associates_132 : decode cX10_associates 132 = .ok (.invokestatic 343, 3) := by decide +kernel
theorem dX10_associates_135 : decode cX10_associates 135 = .ok (.invokestatic 144, 3) := by decide +kernel
theorem dX10_associates_138 : decode cX10_associates 138 = .ok (.ireturn, 1) := by decide +kernel
theorem dX10_ball_0 : decode cX10_ball 0 = .ok (.iload_n 1, 1) := by decide +kernel
theorem dX10_ball_1 : decode cX10_ball 1 = .ok (.ifCond .lt 18, 3) := by decide +kernel
theorem dX10_ball_4 : decode cX10_ball 4 = .ok (.iload_n 1, 1) := by decide +kernel
theorem dX10_ball_5 : decode cX10_ball 5 = .ok (.iconst 4, 1) := by decide +kernel
theorem dX10_ball_6 : decode cX10_ball 6 = .ok (.if_icmp .gt 13, 3) := by decide +kernel
theorem dX10_ball_9 : decode cX10_ball 9 = .ok (.aload_n 0, 1) := by decide +kernel
theorem dX10_ball_10 : decode cX10_ball 10 = .ok (.getfield 53, 3) := by decide +kernel
theorem dX10_ball_13 : decode cX10_ball 13 = .ok (.getfield 141, 3) := by decide +kernel
theorem dX10_ball_16 : decode cX10_ball 16 = .ok (.ifCond .ne 5, 3) := by decide +kernel
theorem dX10_ball_19 : decode cX10_ball 19 = .ok (.iconst (-1), 1) := by decide +kernel
theorem dX10_ball_20 : decode cX10_ball 20 = .ok (.ireturn, 1) := by decide +kernel
theorem dX10_ball_21 : decode cX10_ball 21 = .ok (.aload_n 0, 1) := by decide +kernel
theorem dX10_ball_22 : decode cX10_ball 22 = .ok (.getfield 78, 3) := by decide +kernel
theorem dX10_ball_25 : decode cX10_ball 25 = .ok (.iload_n 1, 1) := by decide +kernel
theorem dX10_ball_26 : decode cX10_ball 26 = .ok (.invokevirtual 346, 3) := by decide +kernel
theorem dX10_ball_29 : decode cX10_ball 29 = .ok (.ireturn, 1) := by decide +kernel
theorem dX10_undo_0 : decode cX10_undo 0 = .ok (.aload_n 0, 1) := by decide +kernel
theorem dX10_undo_1 : decode cX10_undo 1 = .ok (.getfield 27, 3) := by decide +kernel
theorem dX10_undo_4 : decode cX10_undo 4 = .ok (.ifCond .ne 5, 3) := by decide +kernel
theorem dX10_undo_7 : decode cX10_undo 7 = .ok (.iconst (-1), 1) := by decide +kernel
theorem dX10_undo_8 : decode cX10_undo 8 = .ok (.ireturn, 1) := by decide +kernel
theorem dX10_undo_9 : decode cX10_undo 9 = .ok (.aload_n 0, 1) := by decide +kernel
theorem dX10_undo_10 : decode cX10_undo 10 = .ok (.dup, 1) := by decide +kernel
theorem dX10_undo_11 : decode cX10_undo 11 = .ok (.getfield 27, 3) := by decide +kernel
theorem dX10_undo_14 : decode cX10_undo 14 = .ok (.iconst 1, 1) := by decide +kernel
theorem dX10_undo_15 : decode cX10_undo 15 = .ok (.isub, 1) := by decide +kernel
theorem dX10_undo_16 : decode cX10_undo 16 = .ok (.putfield 27, 3) := by decide +kernel
theorem dX10_undo_19 : decode cX10_undo 19 = .ok (.aload_n 0, 1) := by decide +kernel
theorem dX10_undo_20 : decode cX10_undo 20 = .ok (.aload_n 0, 1) := by decide +kernel
theorem dX10_undo_21 : decode cX10_undo 21 = .ok (.getfield 31, 3) := by decide +kernel
theorem dX10_undo_24 : decode cX10_undo 24 = .ok (.bipush 8, 2) := by decide +kernel
theorem dX10_undo_26 : decode cX10_undo 26 = .ok (.iadd, 1) := by decide +kernel
theorem dX10_undo_27 : decode cX10_undo 27 = .ok (.iconst 1, 1) := by decide +kernel
theorem dX10_undo_28 : decode cX10_undo 28 = .ok (.isub, 1) := by decide +kernel
theorem dX10_undo_29 : decode cX10_undo 29 = .ok (.bipush 8, 2) := by decide +kernel
theorem dX10_undo_31 : decode cX10_undo 31 = .ok (.irem, 1) := by decide +kernel
theorem dX10_undo_32 : decode cX10_undo 32 = .ok (.putfield 31, 3) := by decide +kernel
theorem dX10_undo_35 : decode cX10_undo 35 = .ok (.aload_n 0, 1) := by decide +kernel
theorem dX10_undo_36 : decode cX10_undo 36 = .ok (.getfield 12, 3) := by decide +kernel
theorem dX10_undo_39 : decode cX10_undo 39 = .ok (.aload_n 0, 1) := by decide +kernel
theorem dX10_undo_40 : decode cX10_undo 40 = .ok (.getfield 23, 3) := by decide +kernel
theorem dX10_undo_43 : decode cX10_undo 43 = .ok (.aload_n 0, 1) := by decide +kernel
theorem dX10_undo_44 : decode cX10_undo 44 = .ok (.getfield 31, 3) := by decide +kernel
theorem dX10_undo_47 : decode cX10_undo 47 = .ok (.aaload, 1) := by decide +kernel
theorem dX10_undo_48 : decode cX10_undo 48 = .ok (.invokevirtual 350, 3) := by decide +kernel
theorem dX10_undo_51 : decode cX10_undo 51 = .ok (.aload_n 0, 1) := by decide +kernel
theorem dX10_undo_52 : decode cX10_undo 52 = .ok (.getfield 53, 3) := by decide +kernel
theorem dX10_undo_55 : decode cX10_undo 55 = .ok (.aload_n 0, 1) := by decide +kernel
theorem dX10_undo_56 : decode cX10_undo 56 = .ok (.getfield 12, 3) := by decide +kernel
theorem dX10_undo_59 : decode cX10_undo 59 = .ok (.getfield 105, 3) := by decide +kernel
theorem dX10_undo_62 : decode cX10_undo 62 = .ok (.invokevirtual 115, 3) := by decide +kernel
theorem dX10_undo_65 : decode cX10_undo 65 = .ok (.aload_n 0, 1) := by decide +kernel
theorem dX10_undo_66 : decode cX10_undo 66 = .ok (.getfield 27, 3) := by decide +kernel
theorem dX10_undo_69 : decode cX10_undo 69 = .ok (.ireturn, 1) := by decide +kernel
theorem dX10_image_0 : decode cX10_image 0 = .ok (.iload_n 1, 1) := by decide +kernel
theorem dX10_image_1 : decode cX10_image 1 = .ok (.ifCond .eq 21, 3) := by decide +kernel
theorem dX10_image_4 : decode cX10_image 4 = .ok (.aload_n 0, 1) := by decide +kernel
theorem dX10_image_5 : decode cX10_image 5 = .ok (.getfield 16, 3) := by decide +kernel
theorem dX10_image_8 : decode cX10_image 8 = .ok (.aload_n 0, 1) := by decide +kernel
theorem dX10_image_9 : decode cX10_image 9 = .ok (.getfield 12, 3) := by decide +kernel
theorem dX10_image_12 : decode cX10_image 12 = .ok (.invokevirtual 354, 3) := by decide +kernel
theorem dX10_image_15 : decode cX10_image 15 = .ok (.aload_n 0, 1) := by decide +kernel
theorem dX10_image_16 : decode cX10_image 16 = .ok (.iconst 1, 1) := by decide +kernel
theorem dX10_image_17 : decode cX10_image 17 = .ok (.putfield 19, 3) := by decide +kernel
theorem dX10_image_20 : decode cX10_image 20 = .ok (.iconst 1, 1) := by decide +kernel
theorem dX10_image_21 : decode cX10_image 21 = .ok (.ireturn, 1) := by decide +kernel
theorem dX10_image_22 : decode cX10_image 22 = .ok (.aload_n 0, 1) := by decide +kernel
theorem dX10_image_23 : decode cX10_image 23 = .ok (.getfield 19, 3) := by decide +kernel
theorem dX10_image_26 : decode cX10_image 26 = .ok (.ifCond .ne 5, 3) := by decide +kernel
theorem dX10_image_29 : decode cX10_image 29 = .ok (.iconst 0, 1) := by decide +kernel
theorem dX10_image_30 : decode cX10_image 30 = .ok (.ireturn, 1) := by decide +kernel
theorem dX10_image_31 : decode cX10_image 31 = .ok (.aload_n 0, 1) := by decide +kernel
theorem dX10_image_32 : decode cX10_image 32 = .ok (.getfield 12, 3) := by decide +kernel
theorem dX10_image_35 : decode cX10_image 35 = .ok (.aload_n 0, 1) := by decide +kernel
theorem dX10_image_36 : decode cX10_image 36 = .ok (.getfield 16, 3) := by decide +kernel
theorem dX10_image_39 : decode cX10_image 39 = .ok (.invokevirtual 354, 3) := by decide +kernel
theorem dX10_image_42 : decode cX10_image 42 = .ok (.aload_n 0, 1) := by decide +kernel
theorem dX10_image_43 : decode cX10_image 43 = .ok (.iconst 0, 1) := by decide +kernel
theorem dX10_image_44 : decode cX10_image 44 = .ok (.putfield 27, 3) := by decide +kernel
theorem dX10_image_47 : decode cX10_image 47 = .ok (.aload_n 0, 1) := by decide +kernel
theorem dX10_image_48 : decode cX10_image 48 = .ok (.getfield 53, 3) := by decide +kernel
theorem dX10_image_51 : decode cX10_image 51 = .ok (.aload_n 0, 1) := by decide +kernel
theorem dX10_image_52 : decode cX10_image 52 = .ok (.getfield 12, 3) := by decide +kernel
theorem dX10_image_55 : decode cX10_image 55 = .ok (.getfield 105, 3) := by decide +kernel
theorem dX10_image_58 : decode cX10_image 58 = .ok (.invokevirtual 115, 3) := by decide +kernel
theorem dX10_image_61 : decode cX10_image 61 = .ok (.iconst 1, 1) := by decide +kernel
theorem dX10_image_62 : decode cX10_image 62 = .ok (.ireturn, 1) := by decide +kernel
theorem dX10_look_0 : decode cX10_look 0 = .ok (.iload_n 1, 1) := by decide +kernel
theorem dX10_look_1 : decode cX10_look 1 = .ok (.tableswitch 151 0 9 #[55, 66, 77, 88, 99, 107, 112, 117, 122, 132], 55) := by decide +kernel
theorem dX10_look_56 : decode cX10_look 56 = .ok (.aload_n 0, 1) := by decide +kernel
theorem dX10_look_57 : decode cX10_look 57 = .ok (.getfield 12, 3) := by decide +kernel
theorem dX10_look_60 : decode cX10_look 60 = .ok (.getfield 105, 3) := by decide +kernel
theorem dX10_look_63 : decode cX10_look 63 = .ok (.getfield 178, 3) := by decide +kernel
theorem dX10_look_66 : decode cX10_look 66 = .ok (.ireturn, 1) := by decide +kernel
theorem dX10_look_67 : decode cX10_look 67 = .ok (.aload_n 0, 1) := by decide +kernel
theorem dX10_look_68 : decode cX10_look 68 = .ok (.getfield 12, 3) := by decide +kernel
theorem dX10_look_71 : decode cX10_look 71 = .ok (.getfield 105, 3) := by decide +kernel
theorem dX10_look_74 : decode cX10_look 74 = .ok (.invokevirtual 357, 3) := by decide +kernel
theorem dX10_look_77 : decode cX10_look 77 = .ok (.ireturn, 1) := by decide +kernel
theorem dX10_look_78 : decode cX10_look 78 = .ok (.aload_n 0, 1) := by decide +kernel
theorem dX10_look_79 : decode cX10_look 79 = .ok (.getfield 53, 3) := by decide +kernel
theorem dX10_look_82 : decode cX10_look 82 = .ok (.getfield 141, 3) := by decide +kernel
theorem dX10_look_85 : decode cX10_look 85 = .ok (.invokestatic 144, 3) := by decide +kernel
theorem dX10_look_88 : decode cX10_look 88 = .ok (.ireturn, 1) := by decide +kernel
theorem dX10_look_89 : decode cX10_look 89 = .ok (.aload_n 0, 1) := by decide +kernel
theorem dX10_look_90 : decode cX10_look 90 = .ok (.getfield 12, 3) := by decide +kernel
theorem dX10_look_93 : decode cX10_look 93 = .ok (.getfield 105, 3) := by decide +kernel
theorem dX10_look_96 : decode cX10_look 96 = .ok (.invokevirtual 360, 3) := by decide +kernel
theorem dX10_look_99 : decode cX10_look 99 = .ok (.ireturn, 1) := by decide +kernel
theorem dX10_look_100 : decode cX10_look 100 = .ok (.aload_n 0, 1) := by decide +kernel
theorem dX10_look_101 : decode cX10_look 101 = .ok (.getfield 53, 3) := by decide +kernel
theorem dX10_look_104 : decode cX10_look 104 = .ok (.invokevirtual 363, 3) := by decide +kernel
theorem dX10_look_107 : decode cX10_look 107 = .ok (.ireturn, 1) := by decide +kernel
theorem dX10_look_108 : decode cX10_look 108 = .ok (.aload_n 0, 1) := by decide +kernel
theorem dX10_look_109 : decode cX10_look 109 = .ok (.invokevirtual 366, 3) := by decide +kernel
theorem dX10_look_112 : decode cX10_look 112 = .ok (.ireturn, 1) := by decide +kernel
theorem dX10_look_113 : decode cX10_look 113 = .ok (.aload_n 0, 1) := by decide +kernel
theorem dX10_look_114 : decode cX10_look 114 = .ok (.getfield 27, 3) := by decide +kernel
theorem dX10_look_117 : decode cX10_look 117 = .ok (.ireturn, 1) := by decide +kernel
theorem dX10_look_118 : decode cX10_look 118 = .ok (.aload_n 0, 1) := by decide +kernel
theorem dX10_look_119 : decode cX10_look 119 = .ok (.getfield 38, 3) := by decide +kernel
theorem dX10_look_122 : decode cX10_look 122 = .ok (.ireturn, 1) := by decide +kernel
theorem dX10_look_123 : decode cX10_look 123 = .ok (.aload_n 0, 1) := by decide +kernel
theorem dX10_look_124 : decode cX10_look 124 = .ok (.getfield 12, 3) := by decide +kernel
theorem dX10_look_127 : decode cX10_look 127 = .ok (.getfield 267, 3) := by decide +kernel
theorem dX10_look_130 : decode cX10_look 130 = .ok (.iconst 0, 1) := by decide +kernel
theorem dX10_look_131 : decode cX10_look 131 = .ok (.iaload, 1) := by decide +kernel
theorem dX10_look_132 : decode cX10_look 132 = .ok (.ireturn, 1) := by decide +kernel
theorem dX10_look_133 : decode cX10_look 133 = .ok (.aload_n 0, 1) := by decide +kernel
theorem dX10_look_134 : decode cX10_look 134 = .ok (.getfield 53, 3) := by decide +kernel
theorem dX10_look_137 : decode cX10_look 137 = .ok (.getfield 141, 3) := by decide +kernel
theorem dX10_look_140 : decode cX10_look 140 = .ok (.ifCond .eq 10, 3) := by decide +kernel
theorem dX10_look_143 : decode cX10_look 143 = .ok (.aload_n 0, 1) := by decide +kernel
theorem dX10_look_144 : decode cX10_look 144 = .ok (.invokevirtual 369, 3) := by decide +kernel
theorem dX10_look_147 : decode cX10_look 147 = .ok (.goto 4, 3) := by decide +kernel
theorem dX10_look_150 : decode cX10_look 150 = .ok (.iconst 0, 1) := by decide +kernel
theorem dX10_look_151 : decode cX10_look 151 = .ok (.ireturn, 1) := by decide +kernel
theorem dX10_look_152 : decode cX10_look 152 = .ok (.iconst (-1), 1) := by decide +kernel
theorem dX10_look_153 : decode cX10_look 153 = .ok (.ireturn, 1) := by decide +kernel
theorem dX10_bit_0 : decode cX10_bit 0 = .ok (.iload_n 0, 1) := by decide +kernel
theorem dX10_bit_1 : decode cX10_bit 1 = .ok (.ifCond .eq 7, 3) := by decide +kernel
theorem dX10_bit_4 : decode cX10_bit 4 = .ok (.iconst 1, 1) := by decide +kernel
theorem dX10_bit_5 : decode cX10_bit 5 = .ok (.goto 4, 3) := by decide +kernel
theorem dX10_bit_8 : decode cX10_bit 8 = .ok (.iconst 0, 1) := by decide +kernel
theorem dX10_bit_9 : decode cX10_bit 9 = .ok (.ireturn, 1) := by decide +kernel
theorem dX10_degree_0 : decode cX10_degree 0 = .ok (.iload_n 0, 1) := by decide +kernel
theorem dX10_degree_1 : decode cX10_degree 1 = .ok (.iconst 2, 1) := by decide +kernel
theorem dX10_degree_2 : decode cX10_degree 2 = .ok (.bipush 11, 2) := by decide +kernel
theorem dX10_degree_4 : decode cX10_degree 4 = .ok (.iload_n 1, 1) := by decide +kernel
theorem dX10_degree_5 : decode cX10_degree 5 = .ok (.isub, 1) := by decide +kernel
theorem dX10_degree_6 : decode cX10_degree 6 = .ok (.imul, 1) := by decide +kernel
theorem dX10_degree_7 : decode cX10_degree 7 = .ok (.ishr, 1) := by decide +kernel
theorem dX10_degree_8 : decode cX10_degree 8 = .ok (.iconst 3, 1) := by decide +kernel
theorem dX10_degree_9 : decode cX10_degree 9 = .ok (.iand, 1) := by decide +kernel
theorem dX10_degree_10 : decode cX10_degree 10 = .ok (.ireturn, 1) := by decide +kernel
theorem dX10_isRegister_0 : decode cX10_isRegister 0 = .ok (.iload_n 0, 1) := by decide +kernel
theorem dX10_isRegister_1 : decode cX10_isRegister 1 = .ok (.ifCond .lt 13, 3) := by decide +kernel
theorem dX10_isRegister_4 : decode cX10_isRegister 4 = .ok (.iload_n 0, 1) := by decide +kernel
theorem dX10_isRegister_5 : decode cX10_isRegister 5 = .ok (.bipush 10, 2) := by decide +kernel
theorem dX10_isRegister_7 : decode cX10_isRegister 7 = .ok (.if_icmp .ge 7, 3) := by decide +kernel
theorem dX10_isRegister_10 : decode cX10_isRegister 10 = .ok (.iconst 1, 1) := by decide +kernel
theorem dX10_isRegister_11 : decode cX10_isRegister 11 = .ok (.goto 4, 3) := by decide +kernel
theorem dX10_isRegister_14 : decode cX10_isRegister 14 = .ok (.iconst 0, 1) := by decide +kernel
theorem dX10_isRegister_15 : decode cX10_isRegister 15 = .ok (.ireturn, 1) := by decide +kernel
theorem dX10_areUsable_0 : decode cX10_areUsable 0 = .ok (.iload_n 1, 1) := by decide +kernel
theorem dX10_areUsable_1 : decode cX10_areUsable 1 = .ok (.invokestatic 204, 3) := by decide +kernel
theorem dX10_areUsable_4 : decode cX10_areUsable 4 = .ok (.ifCond .eq 24, 3) := by decide +kernel
theorem dX10_areUsable_7 : decode cX10_areUsable 7 = .ok (.iload_n 2, 1) := by decide +kernel
theorem dX10_areUsable_8 : decode cX10_areUsable 8 = .ok (.invokestatic 204, 3) := by decide +kernel
theorem dX10_areUsable_11 : decode cX10_areUsable 11 = .ok (.ifCond .eq 17, 3) := by decide +kernel
theorem dX10_areUsable_14 : decode cX10_areUsable 14 = .ok (.aload_n 0, 1) := by decide +kernel
theorem dX10_areUsable_15 : decode cX10_areUsable 15 = .ok (.getfield 53, 3) := by decide +kernel
theorem dX10_areUsable_18 : decode cX10_areUsable 18 = .ok (.getfield 141, 3) := by decide +kernel
theorem dX10_areUsable_21 : decode cX10_areUsable 21 = .ok (.ifCond .eq 7, 3) := by decide +kernel
theorem dX10_areUsable_24 : decode cX10_areUsable 24 = .ok (.iconst 1, 1) := by decide +kernel
theorem dX10_areUsable_25 : decode cX10_areUsable 25 = .ok (.goto 4, 3) := by decide +kernel
theorem dX10_areUsable_28 : decode cX10_areUsable 28 = .ok (.iconst 0, 1) := by decide +kernel
theorem dX10_areUsable_29 : decode cX10_areUsable 29 = .ok (.ireturn, 1) := by decide +kernel
theorem dX10_isGenerator_0 : decode cX10_isGenerator 0 = .ok (.iload_n 1, 1) := by decide +kernel
theorem dX10_isGenerator_1 : decode cX10_isGenerator 1 = .ok (.iconst 1, 1) := by decide +kernel
theorem dX10_isGenerator_2 : decode cX10_isGenerator 2 = .ok (.if_icmp .lt 21, 3) := by decide +kernel
theorem dX10_isGenerator_5 : decode cX10_isGenerator 5 = .ok (.iload_n 1, 1) := by decide +kernel
theorem dX10_isGenerator_6 : decode cX10_isGenerator 6 = .ok (.aload_n 0, 1) := by decide +kernel
theorem dX10_isGenerator_7 : decode cX10_isGenerator 7 = .ok (.getfield 12, 3) := by decide +kernel
theorem dX10_isGenerator_10 : decode cX10_isGenerator 10 = .ok (.getfield 105, 3) := by decide +kernel
theorem dX10_isGenerator_13 : decode cX10_isGenerator 13 = .ok (.getfield 178, 3) := by decide +kernel
theorem dX10_isGenerator_16 : decode cX10_isGenerator 16 = .ok (.if_icmp .gt 7, 3) := by decide +kernel
theorem dX10_isGenerator_19 : decode cX10_isGenerator 19 = .ok (.iconst 1, 1) := by decide +kernel
theorem dX10_isGenerator_20 : decode cX10_isGenerator 20 = .ok (.goto 4, 3) := by decide +kernel
theorem dX10_isGenerator_23 : decode cX10_isGenerator 23 = .ok (.iconst 0, 1) := by decide +kernel
theorem dX10_isGenerator_24 : decode cX10_isGenerator 24 = .ok (.ireturn, 1) := by decide +kernel
theorem dX10_hasPolynomial_0 : decode cX10_hasPolynomial 0 = .ok (.aload_n 0, 1) := by decide +kernel
theorem dX10_hasPolynomial_1 : decode cX10_hasPolynomial 1 = .ok (.iload_n 1, 1) := by decide +kernel
theorem dX10_hasPolynomial_2 : decode cX10_hasPolynomial 2 = .ok (.invokevirtual 148, 3) := by decide +kernel
theorem dX10_hasPolynomial_5 : decode cX10_hasPolynomial 5 = .ok (.ifCond .eq 17, 3) := by decide +kernel
theorem dX10_hasPolynomial_8 : decode cX10_hasPolynomial 8 = .ok (.aload_n 0, 1) := by decide +kernel
theorem dX10_hasPolynomial_9 : decode cX10_hasPolynomial 9 = .ok (.getfield 53, 3) := by decide +kernel
theorem dX10_hasPolynomial_12 : decode cX10_hasPolynomial 12 = .ok (.getfield 141, 3) := by decide +kernel
theorem dX10_hasPolynomial_15 : decode cX10_hasPolynomial 15 = .ok (.ifCond .eq 7, 3) := by decide +kernel
theorem dX10_hasPolynomial_18 : decode cX10_hasPolynomial 18 = .ok (.iconst 1, 1) := by decide +kernel
theorem dX10_hasPolynomial_19 : decode cX10_hasPolynomial 19 = .ok (.goto 4, 3) := by decide +kernel
theorem dX10_hasPolynomial_22 : decode cX10_hasPolynomial 22 = .ok (.iconst 0, 1) := by decide +kernel
theorem dX10_hasPolynomial_23 : decode cX10_hasPolynomial 23 = .ok (.ireturn, 1) := by decide +kernel
theorem dX10_beginAct_0 : decode cX10_beginAct 0 = .ok (.aload_n 0, 1) := by decide +kernel
theorem dX10_beginAct_1 : decode cX10_beginAct 1 = .ok (.getfield 23, 3) := by decide +kernel
theorem dX10_beginAct_4 : decode cX10_beginAct 4 = .ok (.aload_n 0, 1) := by decide +kernel
theorem dX10_beginAct_5 : decode cX10_beginAct 5 = .ok (.getfield 31, 3) := by decide +kernel
theorem dX10_beginAct_8 : decode cX10_beginAct 8 = .ok (.aaload, 1) := by decide +kernel
theorem dX10_beginAct_9 : decode cX10_beginAct 9 = .ok (.aload_n 0, 1) := by decide +kernel
theorem dX10_beginAct_10 : decode cX10_beginAct 10 = .ok (.getfield 12, 3) := by decide +kernel
theorem dX10_beginAct_13 : decode cX10_beginAct 13 = .ok (.invokevirtual 350, 3) := by decide +kernel
theorem dX10_beginAct_16 : decode cX10_beginAct 16 = .ok (.aload_n 0, 1) := by decide +kernel
theorem dX10_beginAct_17 : decode cX10_beginAct 17 = .ok (.aload_n 0, 1) := by decide +kernel
theorem dX10_beginAct_18 : decode cX10_beginAct 18 = .ok (.getfield 31, 3) := by decide +kernel
theorem dX10_beginAct_21 : decode cX10_beginAct 21 = .ok (.iconst 1, 1) := by decide +kernel
theorem dX10_beginAct_22 : decode cX10_beginAct 22 = .ok (.iadd, 1) := by decide +kernel
theorem dX10_beginAct_23 : decode cX10_beginAct 23 = .ok (.bipush 8, 2) := by decide +kernel
theorem dX10_beginAct_25 : decode cX10_beginAct 25 = .ok (.irem, 1) := by decide +kernel
theorem dX10_beginAct_26 : decode cX10_beginAct 26 = .ok (.putfield 31, 3) := by decide +kernel
theorem dX10_beginAct_29 : decode cX10_beginAct 29 = .ok (.aload_n 0, 1) := by decide +kernel
theorem dX10_beginAct_30 : decode cX10_beginAct 30 = .ok (.aload_n 0, 1) := by decide +kernel
theorem dX10_beginAct_31 : decode cX10_beginAct 31 = .ok (.getfield 27, 3) := by decide +kernel
theorem dX10_beginAct_34 : decode cX10_beginAct 34 = .ok (.iconst 1, 1) := by decide +kernel
theorem dX10_beginAct_35 : decode cX10_beginAct 35 = .ok (.iadd, 1) := by decide +kernel
theorem dX10_beginAct_36 : decode cX10_beginAct 36 = .ok (.bipush 8, 2) := by decide +kernel
theorem dX10_beginAct_38 : decode cX10_beginAct 38 = .ok (.invokestatic 372, 3) := by decide +kernel
theorem dX10_beginAct_41 : decode cX10_beginAct 41 = .ok (.putfield 27, 3) := by decide +kernel
theorem dX10_beginAct_44 : decode cX10_beginAct 44 = .ok (.return_, 1) := by decide +kernel
theorem dX10_beginGroupAct_0 : decode cX10_beginGroupAct 0 = .ok (.aload_n 0, 1) := by decide +kernel
theorem dX10_beginGroupAct_1 : decode cX10_beginGroupAct 1 = .ok (.invokevirtual 207, 3) := by decide +kernel
theorem dX10_beginGroupAct_4 : decode cX10_beginGroupAct 4 = .ok (.aload_n 0, 1) := by decide +kernel
theorem dX10_beginGroupAct_5 : decode cX10_beginGroupAct 5 = .ok (.getfield 12, 3) := by decide +kernel
theorem dX10_beginGroupAct_8 : decode cX10_beginGroupAct 8 = .ok (.invokevirtual 377, 3) := by decide +kernel
theorem dX10_beginGroupAct_11 : decode cX10_beginGroupAct 11 = .ok (.return_, 1) := by decide +kernel
theorem dX10_keep_0 : decode cX10_keep 0 = .ok (.iload_n 1, 1) := by decide +kernel
theorem dX10_keep_1 : decode cX10_keep 1 = .ok (.invokestatic 204, 3) := by decide +kernel
theorem dX10_keep_4 : decode cX10_keep 4 = .ok (.ifCond .eq 16, 3) := by decide +kernel
theorem dX10_keep_7 : decode cX10_keep 7 = .ok (.aload_n 0, 1) := by decide +kernel
theorem dX10_keep_8 : decode cX10_keep 8 = .ok (.getfield 98, 3) := by decide +kernel
theorem dX10_keep_11 : decode cX10_keep 11 = .ok (.ldc2_w 380, 3) := by decide +kernel
theorem dX10_keep_14 : decode cX10_keep 14 = .ok (.invokestatic 326, 3) := by decide +kernel
theorem dX10_keep_17 : decode cX10_keep 17 = .ok (.ifCond .ne 5, 3) := by decide +kernel
theorem dX10_keep_20 : decode cX10_keep 20 = .ok (.iconst 0, 1) := by decide +kernel
theorem dX10_keep_21 : decode cX10_keep 21 = .ok (.ireturn, 1) := by decide +kernel
theorem dX10_keep_22 : decode cX10_keep 22 = .ok (.aload_n 0, 1) := by decide +kernel
theorem dX10_keep_23 : decode cX10_keep 23 = .ok (.invokevirtual 207, 3) := by decide +kernel
theorem dX10_keep_26 : decode cX10_keep 26 = .ok (.aload_n 0, 1) := by decide +kernel
theorem dX10_keep_27 : decode cX10_keep 27 = .ok (.getfield 98, 3) := by decide +kernel
theorem dX10_keep_30 : decode cX10_keep 30 = .ok (.aload_n 0, 1) := by decide +kernel
theorem dX10_keep_31 : decode cX10_keep 31 = .ok (.getfield 12, 3) := by decide +kernel
theorem dX10_keep_34 : decode cX10_keep 34 = .ok (.getfield 210, 3) := by decide +kernel
theorem dX10_keep_37 : decode cX10_keep 37 = .ok (.iload_n 1, 1) := by decide +kernel
theorem dX10_keep_38 : decode cX10_keep 38 = .ok (.aaload, 1) := by decide +kernel
theorem dX10_keep_39 : decode cX10_keep 39 = .ok (.invokestatic 261, 3) := by decide +kernel
theorem dX10_keep_42 : decode cX10_keep 42 = .ok (.iconst 1, 1) := by decide +kernel
theorem dX10_keep_43 : decode cX10_keep 43 = .ok (.ireturn, 1) := by decide +kernel
theorem dX10_keepCounted_0 : decode cX10_keepCounted 0 = .ok (.aload_n 0, 1) := by decide +kernel
theorem dX10_keepCounted_1 : decode cX10_keepCounted 1 = .ok (.getfield 98, 3) := by decide +kernel
theorem dX10_keepCounted_4 : decode cX10_keepCounted 4 = .ok (.ldc2_w 380, 3) := by decide +kernel
theorem dX10_keepCounted_7 : decode cX10_keepCounted 7 = .ok (.invokestatic 326, 3) := by decide +kernel
theorem dX10_keepCounted_10 : decode cX10_keepCounted 10 = .ok (.ifCond .ne 18, 3) := by decide +kernel
theorem dX10_keepCounted_13 : decode cX10_keepCounted 13 = .ok (.aload_n 0, 1) := by decide +kernel
theorem dX10_keepCounted_14 : decode cX10_keepCounted 14 = .ok (.getfield 12, 3) := by decide +kernel
theorem dX10_keepCounted_17 : decode cX10_keepCounted 17 = .ok (.getfield 267, 3) := by decide +kernel
theorem dX10_keepCounted_20 : decode cX10_keepCounted 20 = .ok (.iconst 0, 1) := by decide +kernel
theorem dX10_keepCounted_21 : decode cX10_keepCounted 21 = .ok (.dup2, 1) := by decide +kernel
theorem dX10_keepCounted_22 : decode cX10_keepCounted 22 = .ok (.iaload, 1) := by decide +kernel
theorem dX10_keepCounted_23 : decode cX10_keepCounted 23 = .ok (.iconst 1, 1) := by decide +kernel
theorem dX10_keepCounted_24 : decode cX10_keepCounted 24 = .ok (.iadd, 1) := by decide +kernel
theorem dX10_keepCounted_25 : decode cX10_keepCounted 25 = .ok (.iastore, 1) := by decide +kernel
theorem dX10_keepCounted_26 : decode cX10_keepCounted 26 = .ok (.iconst 0, 1) := by decide +kernel
theorem dX10_keepCounted_27 : decode cX10_keepCounted 27 = .ok (.ireturn, 1) := by decide +kernel
theorem dX10_keepCounted_28 : decode cX10_keepCounted 28 = .ok (.aload_n 0, 1) := by decide +kernel
theorem dX10_keepCounted_29 : decode cX10_keepCounted 29 = .ok (.iload_n 1, 1) := by decide +kernel
theorem dX10_keepCounted_30 : decode cX10_keepCounted 30 = .ok (.invokevirtual 242, 3) := by decide +kernel
theorem dX10_keepCounted_33 : decode cX10_keepCounted 33 = .ok (.ireturn, 1) := by decide +kernel
theorem dX10_feedNumber_0 : decode cX10_feedNumber 0 = .ok (.bipush 24, 2) := by decide +kernel
theorem dX10_feedNumber_2 : decode cX10_feedNumber 2 = .ok (.istore_n 2, 1) := by decide +kernel
theorem dX10_feedNumber_3 : decode cX10_feedNumber 3 = .ok (.iload_n 2, 1) := by decide +kernel
theorem dX10_feedNumber_4 : decode cX10_feedNumber 4 = .ok (.ifCond .lt 45, 3) := by decide +kernel
theorem dX10_feedNumber_7 : decode cX10_feedNumber 7 = .ok (.aload_n 0, 1) := by decide +kernel
theorem dX10_feedNumber_8 : decode cX10_feedNumber 8 = .ok (.getfield 38, 3) := by decide +kernel
theorem dX10_feedNumber_11 : decode cX10_feedNumber 11 = .ok (.sipush 200, 3) := by decide +kernel
theorem dX10_feedNumber_14 : decode cX10_feedNumber 14 = .ok (.if_icmp .ge 35, 3) := by decide +kernel
theorem dX10_feedNumber_17 : decode cX10_feedNumber 17 = .ok (.aload_n 0, 1) := by decide +kernel
theorem dX10_feedNumber_18 : decode cX10_feedNumber 18 = .ok (.getfield 34, 3) := by decide +kernel
theorem dX10_feedNumber_21 : decode cX10_feedNumber 21 = .ok (.aload_n 0, 1) := by decide +kernel
theorem dX10_feedNumber_22 : decode cX10_feedNumber 22 = .ok (.getfield 38, 3) := by decide +kernel
theorem dX10_feedNumber_25 : decode cX10_feedNumber 25 = .ok (.iload_n 1, 1) := by decide +kernel
theorem dX10_feedNumber_26 : decode cX10_feedNumber 26 = .ok (.iload_n 2, 1) := by decide +kernel
theorem dX10_feedNumber_27 : decode cX10_feedNumber 27 = .ok (.ishr, 1) := by decide +kernel
theorem dX10_feedNumber_28 : decode cX10_feedNumber 28 = .ok (.sipush 255, 3) := by decide +kernel
theorem dX10_feedNumber_31 : decode cX10_feedNumber 31 = .ok (.iand, 1) := by decide +kernel
theorem dX10_feedNumber_32 : decode cX10_feedNumber 32 = .ok (.iastore, 1) := by decide +kernel
theorem dX10_feedNumber_33 : decode cX10_feedNumber 33 = .ok (.aload_n 0, 1) := by decide +kernel
theorem dX10_feedNumber_34 : decode cX10_feedNumber 34 = .ok (.dup, 1) := by decide +kernel
theorem dX10_feedNumber_35 : decode cX10_feedNumber 35 = .ok (.getfield 38, 3) := by decide +kernel
theorem dX10_feedNumber_38 : decode cX10_feedNumber 38 = .ok (.iconst 1, 1) := by decide +kernel
theorem dX10_feedNumber_39 : decode cX10_feedNumber 39 = .ok (.iadd, 1) := by decide +kernel
theorem dX10_feedNumber_40 : decode cX10_feedNumber 40 = .ok (.putfield 38, 3) := by decide +kernel
theorem dX10_feedNumber_43 : decode cX10_feedNumber 43 = .ok (.iinc 2 (-8), 3) := by decide +kernel
theorem dX10_feedNumber_46 : decode cX10_feedNumber 46 = .ok (.goto (-43), 3) := by decide +kernel
theorem dX10_feedNumber_49 : decode cX10_feedNumber 49 = .ok (.return_, 1) := by decide +kernel
theorem dX10_layerOf_0 : decode cX10_layerOf 0 = .ok (.iconst 0, 1) := by decide +kernel
theorem dX10_layerOf_1 : decode cX10_layerOf 1 = .ok (.istore_n 2, 1) := by decide +kernel
theorem dX10_layerOf_2 : decode cX10_layerOf 2 = .ok (.iload_n 2, 1) := by decide +kernel
theorem dX10_layerOf_3 : decode cX10_layerOf 3 = .ok (.aload_n 0, 1) := by decide +kernel
theorem dX10_layerOf_4 : decode cX10_layerOf 4 = .ok (.getfield 12, 3) := by decide +kernel
theorem dX10_layerOf_7 : decode cX10_layerOf 7 = .ok (.getfield 105, 3) := by decide +kernel
theorem dX10_layerOf_10 : decode cX10_layerOf 10 = .ok (.getfield 178, 3) := by decide +kernel
theorem dX10_layerOf_13 : decode cX10_layerOf 13 = .ok (.if_icmp .ge 30, 3) := by decide +kernel
theorem dX10_layerOf_16 : decode cX10_layerOf 16 = .ok (.aload_n 1, 1) := by decide +kernel
theorem dX10_layerOf_17 : decode cX10_layerOf 17 = .ok (.iload_n 2, 1) := by decide +kernel
theorem dX10_layerOf_18 : decode cX10_layerOf 18 = .ok (.laload, 1) := by decide +kernel
theorem dX10_layerOf_19 : decode cX10_layerOf 19 = .ok (.lconst 0, 1) := by decide +kernel
theorem dX10_layerOf_20 : decode cX10_layerOf 20 = .ok (.lcmp, 1) := by decide +kernel
theorem dX10_layerOf_21 : decode cX10_layerOf 21 = .ok (.ifCond .eq 16, 3) := by decide +kernel
theorem dX10_layerOf_24 : decode cX10_layerOf 24 = .ok (.aload_n 0, 1) := by decide +kernel
theorem dX10_layerOf_25 : decode cX10_layerOf 25 = .ok (.getfield 12, 3) := by decide +kernel
theorem dX10_layerOf_28 : decode cX10_layerOf 28 = .ok (.getfield 105, 3) := by decide +kernel
theorem dX10_layerOf_31 : decode cX10_layerOf 31 = .ok (.getfield 152, 3) := by decide +kernel
theorem dX10_layerOf_34 : decode cX10_layerOf 34 = .ok (.iload_n 2, 1) := by decide +kernel
theorem dX10_layerOf_35 : decode cX10_layerOf 35 = .ok (.iaload, 1) := by decide +kernel
theorem dX10_layerOf_36 : decode cX10_layerOf 36 = .ok (.ireturn, 1) := by decide +kernel
theorem dX10_layerOf_37 : decode cX10_layerOf 37 = .ok (.iinc 2 1, 3) := by decide +kernel
theorem dX10_layerOf_40 : decode cX10_layerOf 40 = .ok (.goto (-38), 3) := by decide +kernel
theorem dX10_layerOf_43 : decode cX10_layerOf 43 = .ok (.aload_n 0, 1) := by decide +kernel
theorem dX10_layerOf_44 : decode cX10_layerOf 44 = .ok (.getfield 12, 3) := by decide +kernel
theorem dX10_layerOf_47 : decode cX10_layerOf 47 = .ok (.getfield 105, 3) := by decide +kernel
theorem dX10_layerOf_50 : decode cX10_layerOf 50 = .ok (.invokevirtual 357, 3) := by decide +kernel
theorem dX10_layerOf_53 : decode cX10_layerOf 53 = .ok (.iconst 1, 1) := by decide +kernel
theorem dX10_layerOf_54 : decode cX10_layerOf 54 = .ok (.iadd, 1) := by decide +kernel
theorem dX10_layerOf_55 : decode cX10_layerOf 55 = .ok (.ireturn, 1) := by decide +kernel
theorem dX10_commutesWithAll_0 : decode cX10_commutesWithAll 0 = .ok (.iconst 0, 1) := by decide +kernel
theorem dX10_commutesWithAll_1 : decode cX10_commutesWithAll 1 = .ok (.istore_n 2, 1) := by decide +kernel
theorem dX10_commutesWithAll_2 : decode cX10_commutesWithAll 2 = .ok (.iload_n 2, 1) := by decide +kernel
theorem dX10_commutesWithAll_3 : decode cX10_commutesWithAll 3 = .ok (.aload_n 0, 1) := by decide +kernel
theorem dX10_commutesWithAll_4 : decode cX10_commutesWithAll 4 = .ok (.getfield 12, 3) := by decide +kernel
theorem dX10_commutesWithAll_7 : decode cX10_commutesWithAll 7 = .ok (.getfield 105, 3) := by decide +kernel
theorem dX10_commutesWithAll_10 : decode cX10_commutesWithAll 10 = .ok (.getfield 178, 3) := by decide +kernel
theorem dX10_commutesWithAll_13 : decode cX10_commutesWithAll 13 = .ok (.if_icmp .ge 35, 3) := by decide +kernel
theorem dX10_commutesWithAll_16 : decode cX10_commutesWithAll 16 = .ok (.aload_n 0, 1) := by decide +kernel
theorem dX10_commutesWithAll_17 : decode cX10_commutesWithAll 17 = .ok (.getfield 102, 3) := by decide +kernel
theorem dX10_commutesWithAll_20 : decode cX10_commutesWithAll 20 = .ok (.iload_n 2, 1) := by decide +kernel
theorem dX10_commutesWithAll_21 : decode cX10_commutesWithAll 21 = .ok (.lconst 1, 1) := by decide +kernel
theorem dX10_commutesWithAll_22 : decode cX10_commutesWithAll 22 = .ok (.invokestatic 382, 3) := by decide +kernel
theorem dX10_commutesWithAll_25 : decode cX10_commutesWithAll 25 = .ok (.aload_n 0, 1) := by decide +kernel
theorem dX10_commutesWithAll_26 : decode cX10_commutesWithAll 26 = .ok (.getfield 62, 3) := by decide +kernel
theorem dX10_commutesWithAll_29 : decode cX10_commutesWithAll 29 = .ok (.aload_n 1, 1) := by decide +kernel
theorem dX10_commutesWithAll_30 : decode cX10_commutesWithAll 30 = .ok (.aload_n 0, 1) := by decide +kernel
theorem dX10_commutesWithAll_31 : decode cX10_commutesWithAll 31 = .ok (.getfield 102, 3) := by decide +kernel
theorem dX10_commutesWithAll_34 : decode cX10_commutesWithAll 34 = .ok (.invokevirtual 316, 3) := by decide +kernel
theorem dX10_commutesWithAll_37 : decode cX10_commutesWithAll 37 = .ok (.ifCond .ne 5, 3) := by decide +kernel
theorem dX10_commutesWithAll_40 : decode cX10_commutesWithAll 40 = .ok (.iconst 0, 1) := by decide +kernel
theorem dX10_commutesWithAll_41 : decode cX10_commutesWithAll 41 = .ok (.ireturn, 1) := by decide +kernel
theorem dX10_commutesWithAll_42 : decode cX10_commutesWithAll 42 = .ok (.iinc 2 1, 3) := by decide +kernel
theorem dX10_commutesWithAll_45 : decode cX10_commutesWithAll 45 = .ok (.goto (-43), 3) := by decide +kernel
theorem dX10_commutesWithAll_48 : decode cX10_commutesWithAll 48 = .ok (.iconst 1, 1) := by decide +kernel
theorem dX10_commutesWithAll_49 : decode cX10_commutesWithAll 49 = .ok (.ireturn, 1) := by decide +kernel
theorem dX10_greatestRoot_0 : decode cX10_greatestRoot 0 = .ok (.bipush 99, 2) := by decide +kernel
theorem dX10_greatestRoot_2 : decode cX10_greatestRoot 2 = .ok (.istore_n 2, 1) := by decide +kernel
theorem dX10_greatestRoot_3 : decode cX10_greatestRoot 3 = .ok (.iload_n 2, 1) := by decide +kernel
theorem dX10_greatestRoot_4 : decode cX10_greatestRoot 4 = .ok (.iconst 1, 1) := by decide +kernel
theorem dX10_greatestRoot_5 : decode cX10_greatestRoot 5 = .ok (.if_icmp .le 28, 3) := by decide +kernel
theorem dX10_greatestRoot_8 : decode cX10_greatestRoot 8 = .ok (.aload_n 0, 1) := by decide +kernel
theorem dX10_greatestRoot_9 : decode cX10_greatestRoot 9 = .ok (.getfield 62, 3) := by decide +kernel
theorem dX10_greatestRoot_12 : decode cX10_greatestRoot 12 = .ok (.aload_n 0, 1) := by decide +kernel
theorem dX10_greatestRoot_13 : decode cX10_greatestRoot 13 = .ok (.getfield 98, 3) := by decide +kernel
theorem dX10_greatestRoot_16 : decode cX10_greatestRoot 16 = .ok (.aload_n 1, 1) := by decide +kernel
theorem dX10_greatestRoot_17 : decode cX10_greatestRoot 17 = .ok (.iload_n 2, 1) := by decide +kernel
theorem dX10_greatestRoot_18 : decode cX10_greatestRoot 18 = .ok (.i2l, 1) := by decide +kernel
theorem dX10_greatestRoot_19 : decode cX10_greatestRoot 19 = .ok (.invokevirtual 238, 3) := by decide +kernel
theorem dX10_greatestRoot_22 : decode cX10_greatestRoot 22 = .ok (.ifCond .eq 5, 3) := by decide +kernel
theorem dX10_greatestRoot_25 : decode cX10_greatestRoot 25 = .ok (.iload_n 2, 1) := by decide +kernel
theorem dX10_greatestRoot_26 : decode cX10_greatestRoot 26 = .ok (.ireturn, 1) := by decide +kernel
theorem dX10_greatestRoot_27 : decode cX10_greatestRoot 27 = .ok (.iinc 2 (-1), 3) := by decide +kernel
theorem dX10_greatestRoot_30 : decode cX10_greatestRoot 30 = .ok (.goto (-27), 3) := by decide +kernel
theorem dX10_greatestRoot_33 : decode cX10_greatestRoot 33 = .ok (.iconst 1, 1) := by decide +kernel
theorem dX10_greatestRoot_34 : decode cX10_greatestRoot 34 = .ok (.ireturn, 1) := by decide +kernel
theorem dX10_sameAs_0 : decode cX10_sameAs 0 = .ok (.iconst 0, 1) := by decide +kernel
theorem dX10_sameAs_1 : decode cX10_sameAs 1 = .ok (.istore_n 2, 1) := by decide +kernel
theorem dX10_sameAs_2 : decode cX10_sameAs 2 = .ok (.iconst 0, 1) := by decide +kernel
theorem dX10_sameAs_3 : decode cX10_sameAs 3 = .ok (.istore_n 3, 1) := by decide +kernel
theorem dX10_sameAs_4 : decode cX10_sameAs 4 = .ok (.iload_n 3, 1) := by decide +kernel
theorem dX10_sameAs_5 : decode cX10_sameAs 5 = .ok (.bipush 10, 2) := by decide +kernel
theorem dX10_sameAs_7 : decode cX10_sameAs 7 = .ok (.if_icmp .ge 31, 3) := by decide +kernel
theorem dX10_sameAs_10 : decode cX10_sameAs 10 = .ok (.aload_n 1, 1) := by decide +kernel
theorem dX10_sameAs_11 : decode cX10_sameAs 11 = .ok (.aload_n 0, 1) := by decide +kernel
theorem dX10_sameAs_12 : decode cX10_sameAs 12 = .ok (.getfield 12, 3) := by decide +kernel
theorem dX10_sameAs_15 : decode cX10_sameAs 15 = .ok (.getfield 210, 3) := by decide +kernel
theorem dX10_sameAs_18 : decode cX10_sameAs 18 = .ok (.iload_n 3, 1) := by decide +kernel
theorem dX10_sameAs_19 : decode cX10_sameAs 19 = .ok (.aaload, 1) := by decide +kernel
theorem dX10_sameAs_20 : decode cX10_sameAs 20 = .ok (.invokestatic 343, 3) := by decide +kernel
theorem dX10_sameAs_23 : decode cX10_sameAs 23 = .ok (.ifCond .eq 9, 3) := by decide +kernel
theorem dX10_sameAs_26 : decode cX10_sameAs 26 = .ok (.iload_n 2, 1) := by decide +kernel
theorem dX10_sameAs_27 : decode cX10_sameAs 27 = .ok (.iconst 1, 1) := by decide +kernel
theorem dX10_sameAs_28 : decode cX10_sameAs 28 = .ok (.iload_n 3, 1) := by decide +kernel
theorem dX10_sameAs_29 : decode cX10_sameAs 29 = .ok (.ishl, 1) := by decide +kernel
theorem dX10_sameAs_30 : decode cX10_sameAs 30 = .ok (.ior, 1) := by decide +kernel
theorem dX10_sameAs_31 : decode cX10_sameAs 31 = .ok (.istore_n 2, 1) := by decide +kernel
theorem dX10_sameAs_32 : decode cX10_sameAs 32 = .ok (.iinc 3 1, 3) := by decide +kernel
theorem dX10_sameAs_35 : decode cX10_sameAs 35 = .ok (.goto (-31), 3) := by decide +kernel
theorem dX10_sameAs_38 : decode cX10_sameAs 38 = .ok (.iload_n 2, 1) := by decide +kernel
theorem dX10_sameAs_39 : decode cX10_sameAs 39 = .ok (.ireturn, 1) := by decide +kernel
theorem dX10_leastMade_0 : decode cX10_leastMade 0 = .ok (.aload_n 0, 1) := by decide +kernel
theorem dX10_leastMade_1 : decode cX10_leastMade 1 = .ok (.getfield 85, 3) := by decide +kernel
theorem dX10_leastMade_4 : decode cX10_leastMade 4 = .ok (.bipush 6, 2) := by decide +kernel
theorem dX10_leastMade_6 : decode cX10_leastMade 6 = .ok (.invokevirtual 386, 3) := by decide +kernel
theorem dX10_leastMade_9 : decode cX10_leastMade 9 = .ok (.iconst 1, 1) := by decide +kernel
theorem dX10_leastMade_10 : decode cX10_leastMade 10 = .ok (.istore_n 3, 1) := by decide +kernel
theorem dX10_leastMade_11 : decode cX10_leastMade 11 = .ok (.iload_n 3, 1) := by decide +kernel
theorem dX10_leastMade_12 : decode cX10_leastMade 12 = .ok (.aload_n 0, 1) := by decide +kernel
theorem dX10_leastMade_13 : decode cX10_leastMade 13 = .ok (.getfield 12, 3) := by decide +kernel
theorem dX10_leastMade_16 : decode cX10_leastMade 16 = .ok (.getfield 105, 3) := by decide +kernel
theorem dX10_leastMade_19 : decode cX10_leastMade 19 = .ok (.getfield 178, 3) := by decide +kernel
theorem dX10_leastMade_22 : decode cX10_leastMade 22 = .ok (.if_icmp .ge 52, 3) := by decide +kernel
theorem dX10_leastMade_25 : decode cX10_leastMade 25 = .ok (.iconst 0, 1) := by decide +kernel
theorem dX10_leastMade_26 : decode cX10_leastMade 26 = .ok (.istore 4, 2) := by decide +kernel
theorem dX10_leastMade_28 : decode cX10_leastMade 28 = .ok (.iload 4, 2) := by decide +kernel
theorem dX10_leastMade_30 : decode cX10_leastMade 30 = .ok (.iload_n 3, 1) := by decide +kernel
theorem dX10_leastMade_31 : decode cX10_leastMade 31 = .ok (.if_icmp .ge 37, 3) := by decide +kernel
theorem dX10_leastMade_34 : decode cX10_leastMade 34 = .ok (.aload_n 0, 1) := by decide +kernel
theorem dX10_leastMade_35 : decode cX10_leastMade 35 = .ok (.getfield 12, 3) := by decide +kernel
theorem dX10_leastMade_38 : decode cX10_leastMade 38 = .ok (.getfield 105, 3) := by decide +kernel
theorem dX10_leastMade_41 : decode cX10_leastMade 41 = .ok (.iload_n 3, 1) := by decide +kernel
theorem dX10_leastMade_42 : decode cX10_leastMade 42 = .ok (.iload 4, 2) := by decide +kernel
theorem dX10_leastMade_44 : decode cX10_leastMade 44 = .ok (.aload_n 0, 1) := by decide +kernel
theorem dX10_leastMade_45 : decode cX10_leastMade 45 = .ok (.getfield 98, 3) := by decide +kernel
theorem dX10_leastMade_48 : decode cX10_leastMade 48 = .ok (.invokevirtual 389, 3) := by decide +kernel
theorem dX10_leastMade_51 : decode cX10_leastMade 51 = .ok (.aload_n 0, 1) := by decide +kernel
theorem dX10_leastMade_52 : decode cX10_leastMade 52 = .ok (.getfield 85, 3) := by decide +kernel
theorem dX10_leastMade_55 : decode cX10_leastMade 55 = .ok (.aload_n 0, 1) := by decide +kernel
theorem dX10_leastMade_56 : decode cX10_leastMade 56 = .ok (.getfield 98, 3) := by decide +kernel
theorem dX10_leastMade_59 : decode cX10_leastMade 59 = .ok (.invokevirtual 393, 3) := by decide +kernel
theorem dX10_leastMade_62 : decode cX10_leastMade 62 = .ok (.iinc 4 1, 3) := by decide +kernel
theorem dX10_leastMade_65 : decode cX10_leastMade 65 = .ok (.goto (-37), 3) := by decide +kernel
theorem dX10_leastMade_68 : decode cX10_leastMade 68 = .ok (.iinc 3 1, 3) := by decide +kernel
theorem dX10_leastMade_71 : decode cX10_leastMade 71 = .ok (.goto (-60), 3) := by decide +kernel
theorem dX10_leastMade_74 : decode cX10_leastMade 74 = .ok (.iconst 1, 1) := by decide +kernel
theorem dX10_leastMade_75 : decode cX10_leastMade 75 = .ok (.istore_n 3, 1) := by decide +kernel
theorem dX10_leastMade_76 : decode cX10_leastMade 76 = .ok (.iload_n 3, 1) := by decide +kernel
theorem dX10_leastMade_77 : decode cX10_leastMade 77 = .ok (.iload_n 2, 1) := by decide +kernel
theorem dX10_leastMade_78 : decode cX10_leastMade 78 = .ok (.if_icmp .gt 39, 3) := by decide +kernel
theorem dX10_leastMade_81 : decode cX10_leastMade 81 = .ok (.aload_n 0, 1) := by decide +kernel
theorem dX10_leastMade_82 : decode cX10_leastMade 82 = .ok (.getfield 62, 3) := by decide +kernel
theorem dX10_leastMade_85 : decode cX10_leastMade 85 = .ok (.aload_n 0, 1) := by decide +kernel
theorem dX10_leastMade_86 : decode cX10_leastMade 86 = .ok (.getfield 98, 3) := by decide +kernel
theorem dX10_leastMade_89 : decode cX10_leastMade 89 = .ok (.aload_n 1, 1) := by decide +kernel
theorem dX10_leastMade_90 : decode cX10_leastMade 90 = .ok (.iload_n 3, 1) := by decide +kernel
theorem dX10_leastMade_91 : decode cX10_leastMade 91 = .ok (.i2l, 1) := by decide +kernel
theorem dX10_leastMade_92 : decode cX10_leastMade 92 = .ok (.invokevirtual 228, 3) := by decide +kernel
theorem dX10_leastMade_95 : decode cX10_leastMade 95 = .ok (.aload_n 0, 1) := by decide +kernel
theorem dX10_leastMade_96 : decode cX10_leastMade 96 = .ok (.getfield 85, 3) := by decide +kernel
theorem dX10_leastMade_99 : decode cX10_leastMade 99 = .ok (.aload_n 0, 1) := by decide +kernel
theorem dX10_leastMade_100 : decode cX10_leastMade 100 = .ok (.getfield 98, 3) := by decide +kernel
theorem dX10_leastMade_103 : decode cX10_leastMade 103 = .ok (.invokevirtual 396, 3) := by decide +kernel
theorem dX10_leastMade_106 : decode cX10_leastMade 106 = .ok (.ifCond .eq 5, 3) := by decide +kernel
theorem dX10_leastMade_109 : decode cX10_leastMade 109 = .ok (.iload_n 3, 1) := by decide +kernel
theorem dX10_leastMade_110 : decode cX10_leastMade 110 = .ok (.ireturn, 1) := by decide +kernel
theorem dX10_leastMade_111 : decode cX10_leastMade 111 = .ok (.iinc 3 1, 3) := by decide +kernel
theorem dX10_leastMade_114 : decode cX10_leastMade 114 = .ok (.goto (-38), 3) := by decide +kernel
theorem dX10_leastMade_117 : decode cX10_leastMade 117 = .ok (.iconst 0, 1) := by decide +kernel
theorem dX10_leastMade_118 : decode cX10_leastMade 118 = .ok (.ireturn, 1) := by decide +kernel
theorem dX10_firstDifference_0 : decode cX10_firstDifference 0 = .ok (.iconst 0, 1) := by decide +kernel
theorem dX10_firstDifference_1 : decode cX10_firstDifference 1 = .ok (.istore_n 3, 1) := by decide +kernel
theorem dX10_firstDifference_2 : decode cX10_firstDifference 2 = .ok (.iload_n 3, 1) := by decide +kernel
theorem dX10_firstDifference_3 : decode cX10_firstDifference 3 = .ok (.aload_n 0, 1) := by decide +kernel
theorem dX10_firstDifference_4 : decode cX10_firstDifference 4 = .ok (.getfield 12, 3) := by decide +kernel
theorem dX10_firstDifference_7 : decode cX10_firstDifference 7 = .ok (.getfield 105, 3) := by decide +kernel
theorem dX10_firstDifference_10 : decode cX10_firstDifference 10 = .ok (.getfield 178, 3) := by decide +kernel
theorem dX10_firstDifference_13 : decode cX10_firstDifference 13 = .ok (.if_icmp .ge 23, 3) := by decide +kernel
theorem dX10_firstDifference_16 : decode cX10_firstDifference 16 = .ok (.aload_n 1, 1) := by decide +kernel
theorem dX10_firstDifference_17 : decode cX10_firstDifference 17 = .ok (.iload_n 3, 1) := by decide +kernel
theorem dX10_firstDifference_18 : decode cX10_firstDifference 18 = .ok (.laload, 1) := by decide +kernel
theorem dX10_firstDifference_19 : decode cX10_firstDifference 19 = .ok (.aload_n 2, 1) := by decide +kernel
theorem dX10_firstDifference_20 : decode cX10_firstDifference 20 = .ok (.iload_n 3, 1) := by decide +kernel
theorem dX10_firstDifference_21 : decode cX10_firstDifference 21 = .ok (.laload, 1) := by decide +kernel
theorem dX10_firstDifference_22 : decode cX10_firstDifference 22 = .ok (.lcmp, 1) := by decide +kernel
theorem dX10_firstDifference_23 : decode cX10_firstDifference 23 = .ok (.ifCond .eq 7, 3) := by decide +kernel
theorem dX10_firstDifference_26 : decode cX10_firstDifference 26 = .ok (.iload_n 3, 1) := by decide +kernel
theorem dX10_firstDifference_27 : decode cX10_firstDifference 27 = .ok (.iconst 1, 1) := by decide +kernel
theorem dX10_firstDifference_28 : decode cX10_firstDifference 28 = .ok (.iadd, 1) := by decide +kernel
theorem dX10_firstDifference_29 : decode cX10_firstDifference 29 = .ok (.ireturn, 1) := by decide +kernel
theorem dX10_firstDifference_30 : decode cX10_firstDifference 30 = .ok (.iinc 3 1, 3) := by decide +kernel
theorem dX10_firstDifference_33 : decode cX10_firstDifference 33 = .ok (.goto (-31), 3) := by decide +kernel
theorem dX10_firstDifference_36 : decode cX10_firstDifference 36 = .ok (.iconst 0, 1) := by decide +kernel
theorem dX10_firstDifference_37 : decode cX10_firstDifference 37 = .ok (.ireturn, 1) := by decide +kernel
theorem dX10_registersNotOne_0 : decode cX10_registersNotOne 0 = .ok (.iconst 0, 1) := by decide +kernel
theorem dX10_registersNotOne_1 : decode cX10_registersNotOne 1 = .ok (.istore_n 1, 1) := by decide +kernel
theorem dX10_registersNotOne_2 : decode cX10_registersNotOne 2 = .ok (.iconst 0, 1) := by decide +kernel
theorem dX10_registersNotOne_3 : decode cX10_registersNotOne 3 = .ok (.istore_n 2, 1) := by decide +kernel
theorem dX10_registersNotOne_4 : decode cX10_registersNotOne 4 = .ok (.iload_n 2, 1) := by decide +kernel
theorem dX10_registersNotOne_5 : decode cX10_registersNotOne 5 = .ok (.bipush 10, 2) := by decide +kernel
theorem dX10_registersNotOne_7 : decode cX10_registersNotOne 7 = .ok (.if_icmp .ge 30, 3) := by decide +kernel
theorem dX10_registersNotOne_10 : decode cX10_registersNotOne 10 = .ok (.aload_n 0, 1) := by decide +kernel
theorem dX10_registersNotOne_11 : decode cX10_registersNotOne 11 = .ok (.getfield 12, 3) := by decide +kernel
theorem dX10_registersNotOne_14 : decode cX10_registersNotOne 14 = .ok (.getfield 210, 3) := by decide +kernel
theorem dX10_registersNotOne_17 : decode cX10_registersNotOne 17 = .ok (.iload_n 2, 1) := by decide +kernel
theorem dX10_registersNotOne_18 : decode cX10_registersNotOne 18 = .ok (.aaload, 1) := by decide +kernel
theorem dX10_registersNotOne_19 : decode cX10_registersNotOne 19 = .ok (.invokestatic 300, 3) := by decide +kernel
theorem dX10_registersNotOne_22 : decode cX10_registersNotOne 22 = .ok (.ifCond .ne 9, 3) := by decide +kernel
theorem dX10_registersNotOne_25 : decode cX10_registersNotOne 25 = .ok (.iload_n 1, 1) := by decide +kernel
theorem dX10_registersNotOne_26 : decode cX10_registersNotOne 26 = .ok (.iconst 1, 1) := by decide +kernel
theorem dX10_registersNotOne_27 : decode cX10_registersNotOne 27 = .ok (.iload_n 2, 1) := by decide +kernel
theorem dX10_registersNotOne_28 : decode cX10_registersNotOne 28 = .ok (.ishl, 1) := by decide +kernel
theorem dX10_registersNotOne_29 : decode cX10_registersNotOne 29 = .ok (.ior, 1) := by decide +kernel
theorem dX10_registersNotOne_30 : decode cX10_registersNotOne 30 = .ok (.istore_n 1, 1) := by decide +kernel
theorem dX10_registersNotOne_31 : decode cX10_registersNotOne 31 = .ok (.iinc 2 1, 3) := by decide +kernel
theorem dX10_registersNotOne_34 : decode cX10_registersNotOne 34 = .ok (.goto (-30), 3) := by decide +kernel
theorem dX10_registersNotOne_37 : decode cX10_registersNotOne 37 = .ok (.iload_n 1, 1) := by decide +kernel
theorem dX10_registersNotOne_38 : decode cX10_registersNotOne 38 = .ok (.ireturn, 1) := by decide +kernel
theorem dX10_centralGenerators_0 : decode cX10_centralGenerators 0 = .ok (.iconst 0, 1) := by decide +kernel
theorem dX10_centralGenerators_1 : decode cX10_centralGenerators 1 = .ok (.istore_n 1, 1) := by decide +kernel
theorem dX10_centralGenerators_2 : decode cX10_centralGenerators 2 = .ok (.iconst 0, 1) := by decide +kernel
theorem dX10_centralGenerators_3 : decode cX10_centralGenerators 3 = .ok (.istore_n 2, 1) := by decide +kernel
theorem dX10_centralGenerators_4 : decode cX10_centralGenerators 4 = .ok (.iload_n 2, 1) := by decide +kernel
theorem dX10_centralGenerators_5 : decode cX10_centralGenerators 5 = .ok (.aload_n 0, 1) := by decide +kernel
theorem dX10_centralGenerators_6 : decode cX10_centralGenerators 6 = .ok (.getfield 12, 3) := by decide +kernel
theorem dX10_centralGenerators_9 : decode cX10_centralGenerators 9 = .ok (.getfield 105, 3) := by decide +kernel
theorem dX10_centralGenerators_12 : decode cX10_centralGenerators 12 = .ok (.getfield 178, 3) := by decide +kernel
theorem dX10_centralGenerators_15 : decode cX10_centralGenerators 15 = .ok (.if_icmp .ge 29, 3) := by decide +kernel
theorem dX10_centralGenerators_18 : decode cX10_centralGenerators 18 = .ok (.aload_n 0, 1) := by decide +kernel
theorem dX10_centralGenerators_19 : decode cX10_centralGenerators 19 = .ok (.getfield 12, 3) := by decide +kernel
theorem dX10_centralGenerators_22 : decode cX10_centralGenerators 22 = .ok (.getfield 105, 3) := by decide +kernel
theorem dX10_centralGenerators_25 : decode cX10_centralGenerators 25 = .ok (.iload_n 2, 1) := by decide +kernel
theorem dX10_centralGenerators_26 : decode cX10_centralGenerators 26 = .ok (.invokevirtual 155, 3) := by decide +kernel
theorem dX10_centralGenerators_29 : decode cX10_centralGenerators 29 = .ok (.ifCond .eq 9, 3) := by decide +kernel
theorem dX10_centralGenerators_32 : decode cX10_centralGenerators 32 = .ok (.iload_n 1, 1) := by decide +kernel
theorem dX10_centralGenerators_33 : decode cX10_centralGenerators 33 = .ok (.iconst 1, 1) := by decide +kernel
theorem dX10_centralGenerators_34 : decode cX10_centralGenerators 34 = .ok (.iload_n 2, 1) := by decide +kernel
theorem dX10_centralGenerators_35 : decode cX10_centralGenerators 35 = .ok (.ishl, 1) := by decide +kernel
theorem dX10_centralGenerators_36 : decode cX10_centralGenerators 36 = .ok (.ior, 1) := by decide +kernel
theorem dX10_centralGenerators_37 : decode cX10_centralGenerators 37 = .ok (.istore_n 1, 1) := by decide +kernel
theorem dX10_centralGenerators_38 : decode cX10_centralGenerators 38 = .ok (.iinc 2 1, 3) := by decide +kernel
theorem dX10_centralGenerators_41 : decode cX10_centralGenerators 41 = .ok (.goto (-37), 3) := by decide +kernel
theorem dX10_centralGenerators_44 : decode cX10_centralGenerators 44 = .ok (.iload_n 1, 1) := by decide +kernel
theorem dX10_centralGenerators_45 : decode cX10_centralGenerators 45 = .ok (.ireturn, 1) := by decide +kernel
theorem dX11_isIn_0 : decode cX11_isIn 0 = .ok (.lload_n 1, 1) := by decide +kernel
theorem dX11_isIn_1 : decode cX11_isIn 1 = .ok (.lload_n 3, 1) := by decide +kernel
theorem dX11_isIn_2 : decode cX11_isIn 2 = .ok (.lcmp, 1) := by decide +kernel
theorem dX11_isIn_3 : decode cX11_isIn 3 = .ok (.ifCond .lt 14, 3) := by decide +kernel
theorem dX11_isIn_6 : decode cX11_isIn 6 = .ok (.lload_n 1, 1) := by decide +kernel
theorem dX11_isIn_7 : decode cX11_isIn 7 = .ok (.lload 5, 2) := by decide +kernel
theorem dX11_isIn_9 : decode cX11_isIn 9 = .ok (.lcmp, 1) := by decide +kernel
theorem dX11_isIn_10 : decode cX11_isIn 10 = .ok (.ifCond .gt 7, 3) := by decide +kernel
theorem dX11_isIn_13 : decode cX11_isIn 13 = .ok (.iconst 1, 1) := by decide +kernel
theorem dX11_isIn_14 : decode cX11_isIn 14 = .ok (.goto 4, 3) := by decide +kernel
theorem dX11_isIn_17 : decode cX11_isIn 17 = .ok (.iconst 0, 1) := by decide +kernel
theorem dX11_isIn_18 : decode cX11_isIn 18 = .ok (.ireturn, 1) := by decide +kernel
theorem dX11_init_0 : decode cX11_init 0 = .ok (.aload_n 0, 1) := by decide +kernel
theorem dX11_init_1 : decode cX11_init 1 = .ok (.invokespecial 7, 3) := by decide +kernel
theorem dX11_init_4 : decode cX11_init 4 = .ok (.aload_n 0, 1) := by decide +kernel
theorem dX11_init_5 : decode cX11_init 5 = .ok (.sipush 283, 3) := by decide +kernel
theorem dX11_init_8 : decode cX11_init 8 = .ok (.newarray .int, 2) := by decide +kernel
theorem dX11_init_10 : decode cX11_init 10 = .ok (.putfield 13, 3) := by decide +kernel
theorem dX11_init_13 : decode cX11_init 13 = .ok (.aload_n 0, 1) := by decide +kernel
theorem dX11_init_14 : decode cX11_init 14 = .ok (.sipush 2264, 3) := by decide +kernel
theorem dX11_init_17 : decode cX11_init 17 = .ok (.newarray .int, 2) := by decide +kernel
theorem dX11_init_19 : decode cX11_init 19 = .ok (.putfield 17, 3) := by decide +kernel
theorem dX11_init_22 : decode cX11_init 22 = .ok (.aload_n 0, 1) := by decide +kernel
theorem dX11_init_23 : decode cX11_init 23 = .ok (.sipush 16000, 3) := by decide +kernel
theorem dX11_init_26 : decode cX11_init 26 = .ok (.newarray .int, 2) := by decide +kernel
theorem dX11_init_28 : decode cX11_init 28 = .ok (.putfield 20, 3) := by decide +kernel
theorem dX11_init_31 : decode cX11_init 31 = .ok (.aload_n 0, 1) := by decide +kernel
theorem dX11_init_32 : decode cX11_init 32 = .ok (.bipush 6, 2) := by decide +kernel
theorem dX11_init_34 : decode cX11_init 34 = .ok (.newarray .int, 2) := by decide +kernel
theorem dX11_init_36 : decode cX11_init 36 = .ok (.putfield 23, 3) := by decide +kernel
theorem dX11_init_39 : decode cX11_init 39 = .ok (.aload_n 0, 1) := by decide +kernel
theorem dX11_init_40 : decode cX11_init 40 = .ok (.bipush 6, 2) := by decide +kernel
theorem dX11_init_42 : decode cX11_init 42 = .ok (.newarray .int, 2) := by decide +kernel
theorem dX11_init_44 : decode cX11_init 44 = .ok (.putfield 26, 3) := by decide +kernel
theorem dX11_init_47 : decode cX11_init 47 = .ok (.aload_n 0, 1) := by decide +kernel
theorem dX11_init_48 : decode cX11_init 48 = .ok (.ldc 29, 2) := by decide +kernel
theorem dX11_init_50 : decode cX11_init 50 = .ok (.newarray .long, 2) := by decide +kernel
theorem dX11_init_52 : decode cX11_init 52 = .ok (.putfield 30, 3) := by decide +kernel
theorem dX11_init_55 : decode cX11_init 55 = .ok (.aload_n 0, 1) := by decide +kernel
theorem dX11_init_56 : decode cX11_init 56 = .ok (.sipush 600, 3) := by decide +kernel
theorem dX11_init_59 : decode cX11_init 59 = .ok (.newarray .long, 2) := by decide +kernel
theorem dX11_init_61 : decode cX11_init 61 = .ok (.putfield 34, 3) := by decide +kernel
theorem dX11_init_64 : decode cX11_init 64 = .ok (.aload_n 0, 1) := by decide +kernel
theorem dX11_init_65 : decode cX11_init 65 = .ok (.bipush 6, 2) := by decide +kernel
theorem dX11_init_67 : decode cX11_init 67 = .ok (.newarray .long, 2) := by decide +kernel
theorem dX11_init_69 : decode cX11_init 69 = .ok (.putfield 37, 3) := by decide +kernel
theorem dX11_init_72 : decode cX11_init 72 = .ok (.aload_n 0, 1) := by decide +kernel
theorem dX11_init_73 : decode cX11_init 73 = .ok (.bipush 12, 2) := by decide +kernel
theorem dX11_init_75 : decode cX11_init 75 = .ok (.newarray .int, 2) := by decide +kernel
theorem dX11_init_77 : decode cX11_init 77 = .ok (.putfield 40, 3) := by decide +kernel
theorem dX11_init_80 : decode cX11_init 80 = .ok (.aload_n 0, 1) := by decide +kernel
theorem dX11_init_81 : decode cX11_init 81 = .ok (.bipush 12, 2) := by decide +kernel
theorem dX11_init_83 : decode cX11_init 83 = .ok (.newarray .int, 2) := by decide +kernel
theorem dX11_init_85 : decode cX11_init 85 = .ok (.putfield 43, 3) := by decide +kernel
theorem dX11_init_88 : decode cX11_init 88 = .ok (.aload_n 0, 1) := by decide +kernel
theorem dX11_init_89 : decode cX11_init 89 = .ok (.sipush 200, 3) := by decide +kernel
theorem dX11_init_92 : decode cX11_init 92 = .ok (.newarray .int, 2) := by decide +kernel
theorem dX11_init_94 : decode cX11_init 94 = .ok (.putfield 46, 3) := by decide +kernel
theorem dX11_init_97 : decode cX11_init 97 = .ok (.aload_n 0, 1) := by decide +kernel
theorem dX11_init_98 : decode cX11_init 98 = .ok (.iconst (-1), 1) := by decide +kernel
theorem dX11_init_99 : decode cX11_init 99 = .ok (.putfield 49, 3) := by decide +kernel
theorem dX11_init_102 : decode cX11_init 102 = .ok (.aload_n 0, 1) := by decide +kernel
theorem dX11_init_103 : decode cX11_init 103 = .ok (.iconst (-1), 1) := by decide +kernel
theorem dX11_init_104 : decode cX11_init 104 = .ok (.putfield 52, 3) := by decide +kernel
theorem dX11_init_107 : decode cX11_init 107 = .ok (.aload_n 0, 1) := by decide +kernel
theorem dX11_init_108 : decode cX11_init 108 = .ok (.bipush 6, 2) := by decide +kernel
theorem dX11_init_110 : decode cX11_init 110 = .ok (.newarray .int, 2) := by decide +kernel
theorem dX11_init_112 : decode cX11_init 112 = .ok (.putfield 55, 3) := by decide +kernel
theorem dX11_init_115 : decode cX11_init 115 = .ok (.aload_n 0, 1) := by decide +kernel
theorem dX11_init_116 : decode cX11_init 116 = .ok (.sipush 6006, 3) := by decide +kernel
theorem dX11_init_119 : decode cX11_init 119 = .ok (.newarray .long, 2) := by decide +kernel
theorem dX11_init_121 : decode cX11_init 121 = .ok (.putfield 58, 3) := by decide +kernel
theorem dX11_init_124 : decode cX11_init 124 = .ok (.aload_n 0, 1) := by decide +kernel
theorem dX11_init_125 : decode cX11_init 125 = .ok (.sipush 360, 3) := by decide +kernel
theorem dX11_init_128 : decode cX11_init 128 = .ok (.newarray .long, 2) := by decide +kernel
theorem dX11_init_130 : decode cX11_init 130 = .ok (.putfield 61, 3) := by decide +kernel
theorem dX11_init_133 : decode cX11_init 133 = .ok (.aload_n 0, 1) := by decide +kernel
theorem dX11_init_134 : decode cX11_init 134 = .ok (.bipush 18, 2) := by decide +kernel
theorem dX11_init_136 : decode cX11_init 136 = .ok (.newarray .long, 2) := by decide +kernel
theorem dX11_init_138 : decode cX11_init 138 = .ok (.putfield 64, 3) := by decide +kernel
theorem dX11_init_141 : decode cX11_init 141 = .ok (.aload_n 0, 1) := by decide +kernel
theorem dX11_init_142 : decode cX11_init 142 = .ok (.bipush 72, 2) := by decide +kernel
theorem dX11_init_144 : decode cX11_init 144 = .ok (.newarray .long, 2) := by decide +kernel
theorem dX11_init_146 : decode cX11_init 146 = .ok (.putfield 67, 3) := by decide +kernel
theorem dX11_init_149 : decode cX11_init 149 = .ok (.aload_n 0, 1) := by decide +kernel
theorem dX11_init_150 : decode cX11_init 150 = .ok (.sipush 300, 3) := by decide +kernel
theorem dX11_init_153 : decode cX11_init 153 = .ok (.newarray .int, 2) := by decide +kernel
theorem dX11_init_155 : decode cX11_init 155 = .ok (.putfield 70, 3) := by decide +kernel
theorem dX11_init_158 : decode cX11_init 158 = .ok (.aload_n 0, 1) := by decide +kernel
theorem dX11_init_159 : decode cX11_init 159 = .ok (.invokevirtual 73, 3) := by decide +kernel
theorem dX11_init_162 : decode cX11_init 162 = .ok (.return_, 1) := by decide +kernel
theorem dX11_plain_0 : decode cX11_plain 0 = .ok (.aload_n 0, 1) := by decide +kernel
theorem dX11_plain_1 : decode cX11_plain 1 = .ok (.iconst 3, 1) := by decide +kernel
theorem dX11_plain_2 : decode cX11_plain 2 = .ok (.invokevirtual 76, 3) := by decide +kernel
theorem dX11_plain_5 : decode cX11_plain 5 = .ok (.aload_n 0, 1) := by decide +kernel
theorem dX11_plain_6 : decode cX11_plain 6 = .ok (.getfield 13, 3) := by decide +kernel
theorem dX11_plain_9 : decode cX11_plain 9 = .ok (.iconst 1, 1) := by decide +kernel
theorem dX11_plain_10 : decode cX11_plain 10 = .ok (.iconst 1, 1) := by decide +kernel
theorem dX11_plain_11 : decode cX11_plain 11 = .ok (.iastore, 1) := by decide +kernel
theorem dX11_plain_12 : decode cX11_plain 12 = .ok (.aload_n 0, 1) := by decide +kernel
theorem dX11_plain_13 : decode cX11_plain 13 = .ok (.getfield 13, 3) := by decide +kernel
theorem dX11_plain_16 : decode cX11_plain 16 = .ok (.iconst 2, 1) := by decide +kernel
theorem dX11_plain_17 : decode cX11_plain 17 = .ok (.iconst 1, 1) := by decide +kernel
theorem dX11_plain_18 : decode cX11_plain 18 = .ok (.iastore, 1) := by decide +kernel
theorem dX11_plain_19 : decode cX11_plain 19 = .ok (.aload_n 0, 1) := by decide +kernel
theorem dX11_plain_20 : decode cX11_plain 20 = .ok (.getfield 13, 3) := by decide +kernel
theorem dX11_plain_23 : decode cX11_plain 23 = .ok (.iconst 3, 1) := by decide +kernel
theorem dX11_plain_24 : decode cX11_plain 24 = .ok (.iconst 2, 1) := by decide +kernel
theorem dX11_plain_25 : decode cX11_plain 25 = .ok (.iastore, 1) := by decide +kernel
theorem dX11_plain_26 : decode cX11_plain 26 = .ok (.aload_n 0, 1) := by decide +kernel
theorem dX11_plain_27 : decode cX11_plain 27 = .ok (.iconst 1, 1) := by decide +kernel
theorem dX11_plain_28 : decode cX11_plain 28 = .ok (.iconst 0, 1) := by decide +kernel
theorem dX11_plain_29 : decode cX11_plain 29 = .ok (.iconst 2, 1) := by decide +kernel
theorem dX11_plain_30 : decode cX11_plain 30 = .ok (.iconst 1, 1) := by decide +kernel
theorem dX11_plain_31 : decode cX11_plain 31 = .ok (.invokevirtual 80, 3) := by decide +kernel
theorem dX11_plain_34 : decode cX11_plain 34 = .ok (.return_, 1) := by decide +kernel
theorem dX11_clears_0 : decode cX11_clears 0 = .ok (.iconst 0, 1) := by decide +kernel
theorem dX11_clears_1 : decode cX11_clears 1 = .ok (.istore_n 2, 1) := by decide +kernel
theorem dX11_clears_2 : decode cX11_clears 2 = .ok (.iload_n 2, 1) := by decide +kernel
theorem dX11_clears_3 : decode cX11_clears 3 = .ok (.sipush 283, 3) := by decide +kernel
theorem dX11_clears_6 : decode cX11_clears 6 = .ok (.if_icmp .ge 16, 3) := by decide +kernel
theorem dX11_clears_9 : decode cX11_clears 9 = .ok (.aload_n 0, 1) := by decide +kernel
theorem dX11_clears_10 : decode cX11_clears 10 = .ok (.getfield 13, 3) := by decide +kernel
theorem dX11_clears_13 : decode cX11_clears 13 = .ok (.iload_n 2, 1) := by decide +kernel
theorem dX11_clears_14 : decode cX11_clears 14 = .ok (.iconst 0, 1) := by decide +kernel
theorem dX11_clears_15 : decode cX11_clears 15 = .ok (.iastore, 1) := by decide +kernel
theorem dX11_clears_16 : decode cX11_clears 16 = .ok (.iinc 2 1, 3) := by decide +kernel
theorem dX11_clears_19 : decode cX11_clears 19 = .ok (.goto (-17), 3) := by decide +kernel
theorem dX11_clears_22 : decode cX11_clears 22 = .ok (.aload_n 0, 1) := by decide +kernel
theorem dX11_clears_23 : decode cX11_clears 23 = .ok (.getfield 13, 3) := by decide +kernel
theorem dX11_clears_26 : decode cX11_clears 26 = .ok (.iconst 0, 1) := by decide +kernel
theorem dX11_clears_27 : decode cX11_clears 27 = .ok (.iload_n 1, 1) := by decide +kernel
theorem dX11_clears_28 : decode cX11_clears 28 = .ok (.iastore, 1) := by decide +kernel
theorem dX11_clears_29 : decode cX11_clears 29 = .ok (.aload_n 0, 1) := by decide +kernel
theorem dX11_clears_30 : decode cX11_clears 30 = .ok (.iconst 0, 1) := by decide +kernel
theorem dX11_clears_31 : decode cX11_clears 31 = .ok (.putfield 84, 3) := by decide +kernel
theorem dX11_clears_34 : decode cX11_clears 34 = .ok (.return_, 1) := by decide +kernel
theorem dX11_n_0 : decode cX11_n 0 = .ok (.aload_n 0, 1) := by decide +kernel
theorem dX11_n_1 : decode cX11_n 1 = .ok (.getfield 13, 3) := by decide +kernel
theorem dX11_n_4 : decode cX11_n 4 = .ok (.iconst 0, 1) := by decide +kernel
theorem dX11_n_5 : decode cX11_n 5 = .ok (.iaload, 1) := by decide +kernel
theorem dX11_n_6 : decode cX11_n 6 = .ok (.ireturn, 1) := by decide +kernel
theorem dX11_weight_0 : decode cX11_weight 0 = .ok (.aload_n 0, 1) := by decide +kernel
theorem dX11_weight_1 : decode cX11_weight 1 = .ok (.getfield 13, 3) := by decide +kernel
theorem dX11_weight_4 : decode cX11_weight 4 = .ok (.iconst 1, 1) := by decide +kernel
theorem dX11_weight_5 : decode cX11_weight 5 = .ok (.iload_n 1, 1) := by decide +kernel
theorem dX11_weight_6 : decode cX11_weight 6 = .ok (.iadd, 1) := by decide +kernel
theorem dX11_weight_7 : decode cX11_weight 7 = .ok (.iaload, 1) := by decide +kernel
theorem dX11_weight_8 : decode cX11_weight 8 = .ok (.ireturn, 1) := by decide +kernel
theorem dX11_level_0 : decode cX11_level 0 = .ok (.aload_n 0, 1) := by decide +kernel
theorem dX11_level_1 : decode cX11_level 1 = .ok (.aload_n 0, 1) := by decide +kernel
theorem dX11_level_2 : decode cX11_level 2 = .ok (.invokevirtual 88, 3) := by decide +kernel
theorem dX11_level_5 : decode cX11_level 5 = .ok (.iconst 1, 1) := by decide +kernel
theorem dX11_level_6 : decode cX11_level 6 = .ok (.isub, 1) := by decide +kernel
theorem dX11_level_7 : decode cX11_level 7 = .ok (.invokevirtual 92, 3) := by decide +kernel
theorem dX11_level_10 : decode cX11_level 10 = .ok (.ireturn, 1) := by decide +kernel
theorem dX11_tail_0 : decode cX11_tail 0 = .ok (.aload_n 0, 1) := by decide +kernel
theorem dX11_tail_1 : decode cX11_tail 1 = .ok (.getfield 13, 3) := by decide +kernel
theorem dX11_tail_4 : decode cX11_tail 4 = .ok (.bipush 7, 2) := by decide +kernel
theorem dX11_tail_6 : decode cX11_tail 6 = .ok (.bipush 36, 2) := by decide +kernel
theorem dX11_tail_8 : decode cX11_tail 8 = .ok (.iload_n 1, 1) := by decide +kernel
theorem dX11_tail_9 : decode cX11_tail 9 = .ok (.imul, 1) := by decide +kernel
theorem dX11_tail_10 : decode cX11_tail 10 = .ok (.iadd, 1) := by decide +kernel
theorem dX11_tail_11 : decode cX11_tail 11 = .ok (.bipush 6, 2) := by decide +kernel
theorem dX11_tail_13 : decode cX11_tail 13 = .ok (.iload_n 2, 1) := by decide +kernel
theorem dX11_tail_14 : decode cX11_tail 14 = .ok (.imul, 1) := by decide +kernel
theorem dX11_tail_15 : decode cX11_tail 15 = .ok (.iadd, 1) := by decide +kernel
theorem dX11_tail_16 : decode cX11_tail 16 = .ok (.iload_n 3, 1) := by decide +kernel
theorem dX11_tail_17 : decode cX11_tail 17 = .ok (.iadd, 1) := by decide +kernel
theorem dX11_tail_18 : decode cX11_tail 18 = .ok (.iaload, 1) := by decide +kernel
theorem dX11_tail_19 : decode cX11_tail 19 = .ok (.ireturn, 1) := by decide +kernel
theorem dX11_putsTail_0 : decode cX11_putsTail 0 = .ok (.aload_n 0, 1) := by decide +kernel
theorem dX11_putsTail_1 : decode cX11_putsTail 1 = .ok (.getfield 13, 3) := by decide +kernel
theorem dX11_putsTail_4 : decode cX11_putsTail 4 = .ok (.bipush 7, 2) := by decide +kernel
theorem dX11_putsTail_6 : decode cX11_putsTail 6 = .ok (.bipush 36, 2) := by decide +kernel
theorem dX11_putsTail_8 : decode cX11_putsTail 8 = .ok (.iload_n 1, 1) := by decide +kernel
theorem dX11_putsTail_9 : decode cX11_putsTail 9 = .ok (.imul, 1) := by decide +kernel
theorem dX11_putsTail_10 : decode cX11_putsTail 10 = .ok (.iadd, 1) := by decide +kernel
theorem dX11_putsTail_11 : decode cX11_putsTail 11 = .ok (.bipush 6, 2) := by decide +kernel
theorem dX11_putsTail_13 : decode cX11_putsTail 13 = .ok (.iload_n 2, 1) := by decide +kernel
theorem dX11_putsTail_14 : decode cX11_putsTail 14 = .ok (.imul, 1) := by decide +kernel
theorem dX11_putsTail_15 : decode cX11_putsTail 15 = .ok (.iadd, 1) := by decide +kernel
theorem dX11_putsTail_16 : decode cX11_putsTail 16 = .ok (.iload_n 3, 1) := by decide +kernel
theorem dX11_putsTail_17 : decode cX11_putsTail 17 = .ok (.iadd, 1) := by decide +kernel
theorem dX11_putsTail_18 : decode cX11_putsTail 18 = .ok (.iload 4, 2) := by decide +kernel
theorem dX11_putsTail_20 : decode cX11_putsTail 20 = .ok (.iastore, 1) := by decide +kernel
theorem dX11_putsTail_21 : decode cX11_putsTail 21 = .ok (.aload_n 0, 1) := by decide +kernel
theorem dX11_putsTail_22 : decode cX11_putsTail 22 = .ok (.iconst 0, 1) := by decide +kernel
theorem dX11_putsTail_23 : decode cX11_putsTail 23 = .ok (.putfield 84, 3) := by decide +kernel
theorem dX11_putsTail_26 : decode cX11_putsTail 26 = .ok (.return_, 1) := by decide +kernel
theorem dX11_ofRow_0 : decode cX11_ofRow 0 = .ok (.aload_n 0, 1) := by decide +kernel
theorem dX11_ofRow_1 : decode cX11_ofRow 1 = .ok (.getfield 13, 3) := by decide +kernel
theorem dX11_ofRow_4 : decode cX11_ofRow 4 = .ok (.sipush 223, 3) := by decide +kernel
theorem dX11_ofRow_7 : decode cX11_ofRow 7 = .ok (.bipush 6, 2) := by decide +kernel
theorem dX11_ofRow_9 : decode cX11_ofRow 9 = .ok (.iload_n 1, 1) := by decide +kernel
theorem dX11_ofRow_10 : decode cX11_ofRow 10 = .ok (.imul, 1) := by decide +kernel
theorem dX11_ofRow_11 : decode cX11_ofRow 11 = .ok (.iadd, 1) := by decide +kernel
theorem dX11_ofRow_12 : decode cX11_ofRow 12 = .ok (.iload_n 2, 1) := by decide +kernel
theorem dX11_ofRow_13 : decode cX11_ofRow 13 = .ok (.iadd, 1) := by decide +kernel
theorem dX11_ofRow_14 : decode cX11_ofRow 14 = .ok (.iaload, 1) := by decide +kernel
theorem dX11_ofRow_15 : decode cX11_ofRow 15 = .ok (.ireturn, 1) := by decide +kernel
theorem dX11_keepsAct_0 : decode cX11_keepsAct 0 = .ok (.aload_n 0, 1) := by decide +kernel
theorem dX11_keepsAct_1 : decode cX11_keepsAct 1 = .ok (.getfield 96, 3) := by decide +kernel
theorem dX11_keepsAct_4 : decode cX11_keepsAct 4 = .ok (.bipush 8, 2) := by decide +kernel
theorem dX11_keepsAct_6 : decode cX11_keepsAct 6 = .ok (.if_icmp .ne 40, 3) := by decide +kernel
theorem dX11_keepsAct_9 : decode cX11_keepsAct 9 = .ok (.iconst 0, 1) := by decide +kernel
theorem dX11_keepsAct_10 : decode cX11_keepsAct 10 = .ok (.istore_n 1, 1) := by decide +kernel
theorem dX11_keepsAct_11 : decode cX11_keepsAct 11 = .ok (.iload_n 1, 1) := by decide +kernel
theorem dX11_keepsAct_12 : decode cX11_keepsAct 12 = .ok (.sipush 1981, 3) := by decide +kernel
theorem dX11_keepsAct_15 : decode cX11_keepsAct 15 = .ok (.if_icmp .ge 25, 3) := by decide +kernel
theorem dX11_keepsAct_18 : decode cX11_keepsAct 18 = .ok (.aload_n 0, 1) := by decide +kernel
theorem dX11_keepsAct_19 : decode cX11_keepsAct 19 = .ok (.getfield 17, 3) := by decide +kernel
theorem dX11_keepsAct_22 : decode cX11_keepsAct 22 = .ok (.iload_n 1, 1) := by decide +kernel
theorem dX11_keepsAct_23 : decode cX11_keepsAct 23 = .ok (.aload_n 0, 1) := by decide +kernel
theorem dX11_keepsAct_24 : decode cX11_keepsAct 24 = .ok (.getfield 17, 3) := by decide +kernel
theorem dX11_keepsAct_27 : decode cX11_keepsAct 27 = .ok (.iload_n 1, 1) := by decide +kernel
theorem dX11_keepsAct_28 : decode cX11_keepsAct 28 = .ok (.sipush 283, 3) := by decide +kernel
theorem dX11_keepsAct_31 : decode cX11_keepsAct 31 = .ok (.iadd, 1) := by decide +kernel
theorem dX11_keepsAct_32 : decode cX11_keepsAct 32 = .ok (.iaload, 1) := by decide +kernel
theorem dX11_keepsAct_33 : decode cX11_keepsAct 33 = .ok (.iastore, 1) := by decide +kernel
theorem dX11_keepsAct_34 : decode cX11_keepsAct 34 = .ok (.iinc 1 1, 3) := by decide +kernel
