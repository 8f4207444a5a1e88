theorem dX0_init_0 : decode cX0_init 0 = .ok (.aload_n 0, 1) := by decide +kernel
theorem dX0_init_1 : decode cX0_init 1 = .ok (.invokespecial 3, 3) := by decide +kernel
theorem dX0_init_4 : decode cX0_init 4 = .ok (.aload_n 0, 1) := by decide +kernel
theorem dX0_init_5 : decode cX0_init 5 = .ok (.bipush 64, 2) := by decide +kernel
theorem dX0_init_7 : decode cX0_init 7 = .ok (.newarray .long, 2) := by decide +kernel
theorem dX0_init_9 : decode cX0_init 9 = .ok (.putfield 9, 3) := by decide +kernel
theorem dX0_init_12 : decode cX0_init 12 = .ok (.aload_n 0, 1) := by decide +kernel
theorem dX0_init_13 : decode cX0_init 13 = .ok (.bipush 64, 2) := by decide +kernel
theorem dX0_init_15 : decode cX0_init 15 = .ok (.newarray .long, 2) := by decide +kernel
theorem dX0_init_17 : decode cX0_init 17 = .ok (.putfield 15, 3) := by decide +kernel
theorem dX0_init_20 : decode cX0_init 20 = .ok (.aload_n 0, 1) := by decide +kernel
theorem dX0_init_21 : decode cX0_init 21 = .ok (.bipush 6, 2) := by decide +kernel
theorem dX0_init_23 : decode cX0_init 23 = .ok (.newarray .long, 2) := by decide +kernel
theorem dX0_init_25 : decode cX0_init 25 = .ok (.putfield 18, 3) := by decide +kernel
theorem dX0_init_28 : decode cX0_init 28 = .ok (.aload_n 0, 1) := by decide +kernel
theorem dX0_init_29 : decode cX0_init 29 = .ok (.bipush 6, 2) := by decide +kernel
theorem dX0_init_31 : decode cX0_init 31 = .ok (.newarray .long, 2) := by decide +kernel
theorem dX0_init_33 : decode cX0_init 33 = .ok (.putfield 21, 3) := by decide +kernel
theorem dX0_init_36 : decode cX0_init 36 = .ok (.aload_n 0, 1) := by decide +kernel
theorem dX0_init_37 : decode cX0_init 37 = .ok (.bipush 6, 2) := by decide +kernel
theorem dX0_init_39 : decode cX0_init 39 = .ok (.newarray .long, 2) := by decide +kernel
theorem dX0_init_41 : decode cX0_init 41 = .ok (.putfield 24, 3) := by decide +kernel
theorem dX0_init_44 : decode cX0_init 44 = .ok (.aload_n 0, 1) := by decide +kernel
theorem dX0_init_45 : decode cX0_init 45 = .ok (.bipush 6, 2) := by decide +kernel
theorem dX0_init_47 : decode cX0_init 47 = .ok (.newarray .long, 2) := by decide +kernel
theorem dX0_init_49 : decode cX0_init 49 = .ok (.putfield 27, 3) := by decide +kernel
theorem dX0_init_52 : decode cX0_init 52 = .ok (.aload_n 0, 1) := by decide +kernel
theorem dX0_init_53 : decode cX0_init 53 = .ok (.bipush 6, 2) := by decide +kernel
theorem dX0_init_55 : decode cX0_init 55 = .ok (.newarray .long, 2) := by decide +kernel
theorem dX0_init_57 : decode cX0_init 57 = .ok (.putfield 30, 3) := by decide +kernel
theorem dX0_init_60 : decode cX0_init 60 = .ok (.aload_n 0, 1) := by decide +kernel
theorem dX0_init_61 : decode cX0_init 61 = .ok (.aload_n 1, 1) := by decide +kernel
theorem dX0_init_62 : decode cX0_init 62 = .ok (.putfield 33, 3) := by decide +kernel
theorem dX0_init_65 : decode cX0_init 65 = .ok (.return_, 1) := by decide +kernel
theorem dX0_copy_0 : decode cX0_copy 0 = .ok (.aload_n 0, 1) := by decide +kernel
theorem dX0_copy_1 : decode cX0_copy 1 = .ok (.iconst 0, 1) := by decide +kernel
theorem dX0_copy_2 : decode cX0_copy 2 = .ok (.aload_n 1, 1) := by decide +kernel
theorem dX0_copy_3 : decode cX0_copy 3 = .ok (.iconst 0, 1) := by decide +kernel
theorem dX0_copy_4 : decode cX0_copy 4 = .ok (.bipush 6, 2) := by decide +kernel
theorem dX0_copy_6 : decode cX0_copy 6 = .ok (.invokestatic 37, 3) := by decide +kernel
theorem dX0_copy_9 : decode cX0_copy 9 = .ok (.return_, 1) := by decide +kernel
theorem dX0_areSame_0 : decode cX0_areSame 0 = .ok (.iconst 0, 1) := by decide +kernel
theorem dX0_areSame_1 : decode cX0_areSame 1 = .ok (.istore_n 2, 1) := by decide +kernel
theorem dX0_areSame_2 : decode cX0_areSame 2 = .ok (.iload_n 2, 1) := by decide +kernel
theorem dX0_areSame_3 : decode cX0_areSame 3 = .ok (.bipush 6, 2) := by decide +kernel
theorem dX0_areSame_5 : decode cX0_areSame 5 = .ok (.if_icmp .ge 21, 3) := by decide +kernel
theorem dX0_areSame_8 : decode cX0_areSame 8 = .ok (.aload_n 0, 1) := by decide +kernel
theorem dX0_areSame_9 : decode cX0_areSame 9 = .ok (.iload_n 2, 1) := by decide +kernel
theorem dX0_areSame_10 : decode cX0_areSame 10 = .ok (.laload, 1) := by decide +kernel
theorem dX0_areSame_11 : decode cX0_areSame 11 = .ok (.aload_n 1, 1) := by decide +kernel
theorem dX0_areSame_12 : decode cX0_areSame 12 = .ok (.iload_n 2, 1) := by decide +kernel
theorem dX0_areSame_13 : decode cX0_areSame 13 = .ok (.laload, 1) := by decide +kernel
theorem dX0_areSame_14 : decode cX0_areSame 14 = .ok (.lcmp, 1) := by decide +kernel
theorem dX0_areSame_15 : decode cX0_areSame 15 = .ok (.ifCond .eq 5, 3) := by decide +kernel
theorem dX0_areSame_18 : decode cX0_areSame 18 = .ok (.iconst 0, 1) := by decide +kernel
theorem dX0_areSame_19 : decode cX0_areSame 19 = .ok (.ireturn, 1) := by decide +kernel
theorem dX0_areSame_20 : decode cX0_areSame 20 = .ok (.iinc 2 1, 3) := by decide +kernel
theorem dX0_areSame_23 : decode cX0_areSame 23 = .ok (.goto (-21), 3) := by decide +kernel
theorem dX0_areSame_26 : decode cX0_areSame 26 = .ok (.iconst 1, 1) := by decide +kernel
theorem dX0_areSame_27 : decode cX0_areSame 27 = .ok (.ireturn, 1) := by decide +kernel
theorem dX0_isOne_0 : decode cX0_isOne 0 = .ok (.aload_n 0, 1) := by decide +kernel
theorem dX0_isOne_1 : decode cX0_isOne 1 = .ok (.lconst 0, 1) := by decide +kernel
theorem dX0_isOne_2 : decode cX0_isOne 2 = .ok (.invokestatic 43, 3) := by decide +kernel
theorem dX0_isOne_5 : decode cX0_isOne 5 = .ok (.ireturn, 1) := by decide +kernel
theorem dX0_isWithin_0 : decode cX0_isWithin 0 = .ok (.iconst 0, 1) := by decide +kernel
theorem dX0_isWithin_1 : decode cX0_isWithin 1 = .ok (.istore_n 3, 1) := by decide +kernel
theorem dX0_isWithin_2 : decode cX0_isWithin 2 = .ok (.iload_n 3, 1) := by decide +kernel
theorem dX0_isWithin_3 : decode cX0_isWithin 3 = .ok (.bipush 6, 2) := by decide +kernel
theorem dX0_isWithin_5 : decode cX0_isWithin 5 = .ok (.if_icmp .ge 28, 3) := by decide +kernel
theorem dX0_isWithin_8 : decode cX0_isWithin 8 = .ok (.aload_n 0, 1) := by decide +kernel
theorem dX0_isWithin_9 : decode cX0_isWithin 9 = .ok (.iload_n 3, 1) := by decide +kernel
theorem dX0_isWithin_10 : decode cX0_isWithin 10 = .ok (.laload, 1) := by decide +kernel
theorem dX0_isWithin_11 : decode cX0_isWithin 11 = .ok (.lload_n 1, 1) := by decide +kernel
theorem dX0_isWithin_12 : decode cX0_isWithin 12 = .ok (.lneg, 1) := by decide +kernel
theorem dX0_isWithin_13 : decode cX0_isWithin 13 = .ok (.lcmp, 1) := by decide +kernel
theorem dX0_isWithin_14 : decode cX0_isWithin 14 = .ok (.ifCond .lt 11, 3) := by decide +kernel
theorem dX0_isWithin_17 : decode cX0_isWithin 17 = .ok (.aload_n 0, 1) := by decide +kernel
theorem dX0_isWithin_18 : decode cX0_isWithin 18 = .ok (.iload_n 3, 1) := by decide +kernel
theorem dX0_isWithin_19 : decode cX0_isWithin 19 = .ok (.laload, 1) := by decide +kernel
theorem dX0_isWithin_20 : decode cX0_isWithin 20 = .ok (.lload_n 1, 1) := by decide +kernel
theorem dX0_isWithin_21 : decode cX0_isWithin 21 = .ok (.lcmp, 1) := by decide +kernel
theorem dX0_isWithin_22 : decode cX0_isWithin 22 = .ok (.ifCond .le 5, 3) := by decide +kernel
theorem dX0_isWithin_25 : decode cX0_isWithin 25 = .ok (.iconst 0, 1) := by decide +kernel
theorem dX0_isWithin_26 : decode cX0_isWithin 26 = .ok (.ireturn, 1) := by decide +kernel
theorem dX0_isWithin_27 : decode cX0_isWithin 27 = .ok (.iinc 3 1, 3) := by decide +kernel
theorem dX0_isWithin_30 : decode cX0_isWithin 30 = .ok (.goto (-28), 3) := by decide +kernel
theorem dX0_isWithin_33 : decode cX0_isWithin 33 = .ok (.iconst 1, 1) := by decide +kernel
theorem dX0_isWithin_34 : decode cX0_isWithin 34 = .ok (.ireturn, 1) := by decide +kernel
theorem dX0_makeGenerator_0 : decode cX0_makeGenerator 0 = .ok (.aload_n 0, 1) := by decide +kernel
theorem dX0_makeGenerator_1 : decode cX0_makeGenerator 1 = .ok (.lconst 0, 1) := by decide +kernel
theorem dX0_makeGenerator_2 : decode cX0_makeGenerator 2 = .ok (.invokestatic 47, 3) := by decide +kernel
theorem dX0_makeGenerator_5 : decode cX0_makeGenerator 5 = .ok (.iload_n 1, 1) := by decide +kernel
theorem dX0_makeGenerator_6 : decode cX0_makeGenerator 6 = .ok (.ifCond .lt 13, 3) := by decide +kernel
theorem dX0_makeGenerator_9 : decode cX0_makeGenerator 9 = .ok (.iload_n 1, 1) := by decide +kernel
theorem dX0_makeGenerator_10 : decode cX0_makeGenerator 10 = .ok (.bipush 6, 2) := by decide +kernel
theorem dX0_makeGenerator_12 : decode cX0_makeGenerator 12 = .ok (.if_icmp .ge 7, 3) := by decide +kernel
theorem dX0_makeGenerator_15 : decode cX0_makeGenerator 15 = .ok (.aload_n 0, 1) := by decide +kernel
theorem dX0_makeGenerator_16 : decode cX0_makeGenerator 16 = .ok (.iload_n 1, 1) := by decide +kernel
theorem dX0_makeGenerator_17 : decode cX0_makeGenerator 17 = .ok (.lload_n 2, 1) := by decide +kernel
theorem dX0_makeGenerator_18 : decode cX0_makeGenerator 18 = .ok (.lastore, 1) := by decide +kernel
theorem dX0_makeGenerator_19 : decode cX0_makeGenerator 19 = .ok (.return_, 1) := by decide +kernel
theorem dX0_product_0 : decode cX0_product 0 = .ok (.iconst 0, 1) := by decide +kernel
theorem dX0_product_1 : decode cX0_product 1 = .ok (.istore 4, 2) := by decide +kernel
theorem dX0_product_3 : decode cX0_product 3 = .ok (.iload 4, 2) := by decide +kernel
theorem dX0_product_5 : decode cX0_product 5 = .ok (.bipush 6, 2) := by decide +kernel
theorem dX0_product_7 : decode cX0_product 7 = .ok (.if_icmp .ge 38, 3) := by decide +kernel
theorem dX0_product_10 : decode cX0_product 10 = .ok (.aload_n 0, 1) := by decide +kernel
theorem dX0_product_11 : decode cX0_product 11 = .ok (.getfield 9, 3) := by decide +kernel
theorem dX0_product_14 : decode cX0_product 14 = .ok (.iload 4, 2) := by decide +kernel
theorem dX0_product_16 : decode cX0_product 16 = .ok (.aload_n 2, 1) := by decide +kernel
theorem dX0_product_17 : decode cX0_product 17 = .ok (.iload 4, 2) := by decide +kernel
theorem dX0_product_19 : decode cX0_product 19 = .ok (.laload, 1) := by decide +kernel
theorem dX0_product_20 : decode cX0_product 20 = .ok (.invokestatic 53, 3) := by decide +kernel
theorem dX0_product_23 : decode cX0_product 23 = .ok (.aload_n 0, 1) := by decide +kernel
theorem dX0_product_24 : decode cX0_product 24 = .ok (.getfield 9, 3) := by decide +kernel
theorem dX0_product_27 : decode cX0_product 27 = .ok (.bipush 6, 2) := by decide +kernel
theorem dX0_product_29 : decode cX0_product 29 = .ok (.iload 4, 2) := by decide +kernel
theorem dX0_product_31 : decode cX0_product 31 = .ok (.iadd, 1) := by decide +kernel
theorem dX0_product_32 : decode cX0_product 32 = .ok (.aload_n 3, 1) := by decide +kernel
theorem dX0_product_33 : decode cX0_product 33 = .ok (.iload 4, 2) := by decide +kernel
theorem dX0_product_35 : decode cX0_product 35 = .ok (.laload, 1) := by decide +kernel
theorem dX0_product_36 : decode cX0_product 36 = .ok (.invokestatic 53, 3) := by decide +kernel
theorem dX0_product_39 : decode cX0_product 39 = .ok (.iinc 4 1, 3) := by decide +kernel
theorem dX0_product_42 : decode cX0_product 42 = .ok (.goto (-39), 3) := by decide +kernel
theorem dX0_product_45 : decode cX0_product 45 = .ok (.iconst 0, 1) := by decide +kernel
theorem dX0_product_46 : decode cX0_product 46 = .ok (.istore 4, 2) := by decide +kernel
theorem dX0_product_48 : decode cX0_product 48 = .ok (.iload 4, 2) := by decide +kernel
theorem dX0_product_50 : decode cX0_product 50 = .ok (.bipush 6, 2) := by decide +kernel
theorem dX0_product_52 : decode cX0_product 52 = .ok (.if_icmp .ge 30, 3) := by decide +kernel
theorem dX0_product_55 : decode cX0_product 55 = .ok (.aload_n 1, 1) := by decide +kernel
theorem dX0_product_56 : decode cX0_product 56 = .ok (.iload 4, 2) := by decide +kernel
theorem dX0_product_58 : decode cX0_product 58 = .ok (.aload_n 0, 1) := by decide +kernel
theorem dX0_product_59 : decode cX0_product 59 = .ok (.getfield 33, 3) := by decide +kernel
theorem dX0_product_62 : decode cX0_product 62 = .ok (.getfield 59, 3) := by decide +kernel
theorem dX0_product_65 : decode cX0_product 65 = .ok (.iload 4, 2) := by decide +kernel
theorem dX0_product_67 : decode cX0_product 67 = .ok (.aaload, 1) := by decide +kernel
theorem dX0_product_68 : decode cX0_product 68 = .ok (.aload_n 0, 1) := by decide +kernel
theorem dX0_product_69 : decode cX0_product 69 = .ok (.getfield 9, 3) := by decide +kernel
theorem dX0_product_72 : decode cX0_product 72 = .ok (.invokevirtual 63, 3) := by decide +kernel
theorem dX0_product_75 : decode cX0_product 75 = .ok (.lastore, 1) := by decide +kernel
theorem dX0_product_76 : decode cX0_product 76 = .ok (.iinc 4 1, 3) := by decide +kernel
theorem dX0_product_79 : decode cX0_product 79 = .ok (.goto (-31), 3) := by decide +kernel
theorem dX0_product_82 : decode cX0_product 82 = .ok (.return_, 1) := by decide +kernel
theorem dX0_inverse_0 : decode cX0_inverse 0 = .ok (.iconst 0, 1) := by decide +kernel
theorem dX0_inverse_1 : decode cX0_inverse 1 = .ok (.istore_n 3, 1) := by decide +kernel
theorem dX0_inverse_2 : decode cX0_inverse 2 = .ok (.iload_n 3, 1) := by decide +kernel
theorem dX0_inverse_3 : decode cX0_inverse 3 = .ok (.bipush 6, 2) := by decide +kernel
theorem dX0_inverse_5 : decode cX0_inverse 5 = .ok (.if_icmp .ge 32, 3) := by decide +kernel
theorem dX0_inverse_8 : decode cX0_inverse 8 = .ok (.aload_n 0, 1) := by decide +kernel
theorem dX0_inverse_9 : decode cX0_inverse 9 = .ok (.getfield 9, 3) := by decide +kernel
theorem dX0_inverse_12 : decode cX0_inverse 12 = .ok (.iload_n 3, 1) := by decide +kernel
theorem dX0_inverse_13 : decode cX0_inverse 13 = .ok (.aload_n 2, 1) := by decide +kernel
theorem dX0_inverse_14 : decode cX0_inverse 14 = .ok (.iload_n 3, 1) := by decide +kernel
theorem dX0_inverse_15 : decode cX0_inverse 15 = .ok (.laload, 1) := by decide +kernel
theorem dX0_inverse_16 : decode cX0_inverse 16 = .ok (.invokestatic 53, 3) := by decide +kernel
theorem dX0_inverse_19 : decode cX0_inverse 19 = .ok (.aload_n 0, 1) := by decide +kernel
theorem dX0_inverse_20 : decode cX0_inverse 20 = .ok (.getfield 9, 3) := by decide +kernel
theorem dX0_inverse_23 : decode cX0_inverse 23 = .ok (.bipush 6, 2) := by decide +kernel
theorem dX0_inverse_25 : decode cX0_inverse 25 = .ok (.iload_n 3, 1) := by decide +kernel
theorem dX0_inverse_26 : decode cX0_inverse 26 = .ok (.iadd, 1) := by decide +kernel
theorem dX0_inverse_27 : decode cX0_inverse 27 = .ok (.lconst 0, 1) := by decide +kernel
theorem dX0_inverse_28 : decode cX0_inverse 28 = .ok (.invokestatic 53, 3) := by decide +kernel
theorem dX0_inverse_31 : decode cX0_inverse 31 = .ok (.iinc 3 1, 3) := by decide +kernel
theorem dX0_inverse_34 : decode cX0_inverse 34 = .ok (.goto (-32), 3) := by decide +kernel
theorem dX0_inverse_37 : decode cX0_inverse 37 = .ok (.iconst 0, 1) := by decide +kernel
theorem dX0_inverse_38 : decode cX0_inverse 38 = .ok (.istore_n 3, 1) := by decide +kernel
theorem dX0_inverse_39 : decode cX0_inverse 39 = .ok (.iload_n 3, 1) := by decide +kernel
theorem dX0_inverse_40 : decode cX0_inverse 40 = .ok (.bipush 6, 2) := by decide +kernel
theorem dX0_inverse_42 : decode cX0_inverse 42 = .ok (.if_icmp .ge 43, 3) := by decide +kernel
theorem dX0_inverse_45 : decode cX0_inverse 45 = .ok (.aload_n 1, 1) := by decide +kernel
theorem dX0_inverse_46 : decode cX0_inverse 46 = .ok (.iload_n 3, 1) := by decide +kernel
theorem dX0_inverse_47 : decode cX0_inverse 47 = .ok (.aload_n 0, 1) := by decide +kernel
theorem dX0_inverse_48 : decode cX0_inverse 48 = .ok (.getfield 33, 3) := by decide +kernel
theorem dX0_inverse_51 : decode cX0_inverse 51 = .ok (.getfield 59, 3) := by decide +kernel
theorem dX0_inverse_54 : decode cX0_inverse 54 = .ok (.iload_n 3, 1) := by decide +kernel
theorem dX0_inverse_55 : decode cX0_inverse 55 = .ok (.aaload, 1) := by decide +kernel
theorem dX0_inverse_56 : decode cX0_inverse 56 = .ok (.aload_n 0, 1) := by decide +kernel
theorem dX0_inverse_57 : decode cX0_inverse 57 = .ok (.getfield 9, 3) := by decide +kernel
theorem dX0_inverse_60 : decode cX0_inverse 60 = .ok (.invokevirtual 63, 3) := by decide +kernel
theorem dX0_inverse_63 : decode cX0_inverse 63 = .ok (.lneg, 1) := by decide +kernel
theorem dX0_inverse_64 : decode cX0_inverse 64 = .ok (.lastore, 1) := by decide +kernel
theorem dX0_inverse_65 : decode cX0_inverse 65 = .ok (.aload_n 0, 1) := by decide +kernel
theorem dX0_inverse_66 : decode cX0_inverse 66 = .ok (.getfield 9, 3) := by decide +kernel
theorem dX0_inverse_69 : decode cX0_inverse 69 = .ok (.bipush 6, 2) := by decide +kernel
theorem dX0_inverse_71 : decode cX0_inverse 71 = .ok (.iload_n 3, 1) := by decide +kernel
theorem dX0_inverse_72 : decode cX0_inverse 72 = .ok (.iadd, 1) := by decide +kernel
theorem dX0_inverse_73 : decode cX0_inverse 73 = .ok (.aload_n 1, 1) := by decide +kernel
theorem dX0_inverse_74 : decode cX0_inverse 74 = .ok (.iload_n 3, 1) := by decide +kernel
theorem dX0_inverse_75 : decode cX0_inverse 75 = .ok (.laload, 1) := by decide +kernel
theorem dX0_inverse_76 : decode cX0_inverse 76 = .ok (.invokestatic 53, 3) := by decide +kernel
theorem dX0_inverse_79 : decode cX0_inverse 79 = .ok (.iinc 3 1, 3) := by decide +kernel
theorem dX0_inverse_82 : decode cX0_inverse 82 = .ok (.goto (-43), 3) := by decide +kernel
theorem dX0_inverse_85 : decode cX0_inverse 85 = .ok (.return_, 1) := by decide +kernel
theorem dX0_commutator_0 : decode cX0_commutator 0 = .ok (.aload_n 0, 1) := by decide +kernel
theorem dX0_commutator_1 : decode cX0_commutator 1 = .ok (.aload_n 0, 1) := by decide +kernel
theorem dX0_commutator_2 : decode cX0_commutator 2 = .ok (.getfield 30, 3) := by decide +kernel
theorem dX0_commutator_5 : decode cX0_commutator 5 = .ok (.aload_n 2, 1) := by decide +kernel
theorem dX0_commutator_6 : decode cX0_commutator 6 = .ok (.aload_n 3, 1) := by decide +kernel
theorem dX0_commutator_7 : decode cX0_commutator 7 = .ok (.invokevirtual 69, 3) := by decide +kernel
theorem dX0_commutator_10 : decode cX0_commutator 10 = .ok (.aload_n 0, 1) := by decide +kernel
theorem dX0_commutator_11 : decode cX0_commutator 11 = .ok (.aload_n 0, 1) := by decide +kernel
theorem dX0_commutator_12 : decode cX0_commutator 12 = .ok (.getfield 27, 3) := by decide +kernel
theorem dX0_commutator_15 : decode cX0_commutator 15 = .ok (.aload_n 3, 1) := by decide +kernel
theorem dX0_commutator_16 : decode cX0_commutator 16 = .ok (.aload_n 2, 1) := by decide +kernel
theorem dX0_commutator_17 : decode cX0_commutator 17 = .ok (.invokevirtual 69, 3) := by decide +kernel
theorem dX0_commutator_20 : decode cX0_commutator 20 = .ok (.aload_n 0, 1) := by decide +kernel
theorem dX0_commutator_21 : decode cX0_commutator 21 = .ok (.aload_n 0, 1) := by decide +kernel
theorem dX0_commutator_22 : decode cX0_commutator 22 = .ok (.getfield 27, 3) := by decide +kernel
theorem dX0_commutator_25 : decode cX0_commutator 25 = .ok (.aload_n 0, 1) := by decide +kernel
theorem dX0_commutator_26 : decode cX0_commutator 26 = .ok (.getfield 27, 3) := by decide +kernel
theorem dX0_commutator_29 : decode cX0_commutator 29 = .ok (.invokevirtual 73, 3) := by decide +kernel
theorem dX0_commutator_32 : decode cX0_commutator 32 = .ok (.aload_n 0, 1) := by decide +kernel
theorem dX0_commutator_33 : decode cX0_commutator 33 = .ok (.aload_n 1, 1) := by decide +kernel
theorem dX0_commutator_34 : decode cX0_commutator 34 = .ok (.aload_n 0, 1) := by decide +kernel
theorem dX0_commutator_35 : decode cX0_commutator 35 = .ok (.getfield 27, 3) := by decide +kernel
theorem dX0_commutator_38 : decode cX0_commutator 38 = .ok (.aload_n 0, 1) := by decide +kernel
theorem dX0_commutator_39 : decode cX0_commutator 39 = .ok (.getfield 30, 3) := by decide +kernel
theorem dX0_commutator_42 : decode cX0_commutator 42 = .ok (.invokevirtual 69, 3) := by decide +kernel
theorem dX0_commutator_45 : decode cX0_commutator 45 = .ok (.return_, 1) := by decide +kernel
theorem dX0_conjugated_0 : decode cX0_conjugated 0 = .ok (.aload_n 0, 1) := by decide +kernel
theorem dX0_conjugated_1 : decode cX0_conjugated 1 = .ok (.aload_n 0, 1) := by decide +kernel
theorem dX0_conjugated_2 : decode cX0_conjugated 2 = .ok (.getfield 30, 3) := by decide +kernel
theorem dX0_conjugated_5 : decode cX0_conjugated 5 = .ok (.aload_n 2, 1) := by decide +kernel
theorem dX0_conjugated_6 : decode cX0_conjugated 6 = .ok (.aload_n 3, 1) := by decide +kernel
theorem dX0_conjugated_7 : decode cX0_conjugated 7 = .ok (.invokevirtual 69, 3) := by decide +kernel
theorem dX0_conjugated_10 : decode cX0_conjugated 10 = .ok (.aload_n 0, 1) := by decide +kernel
theorem dX0_conjugated_11 : decode cX0_conjugated 11 = .ok (.aload_n 0, 1) := by decide +kernel
theorem dX0_conjugated_12 : decode cX0_conjugated 12 = .ok (.getfield 27, 3) := by decide +kernel
theorem dX0_conjugated_15 : decode cX0_conjugated 15 = .ok (.aload_n 3, 1) := by decide +kernel
theorem dX0_conjugated_16 : decode cX0_conjugated 16 = .ok (.invokevirtual 73, 3) := by decide +kernel
theorem dX0_conjugated_19 : decode cX0_conjugated 19 = .ok (.aload_n 0, 1) := by decide +kernel
theorem dX0_conjugated_20 : decode cX0_conjugated 20 = .ok (.aload_n 1, 1) := by decide +kernel
theorem dX0_conjugated_21 : decode cX0_conjugated 21 = .ok (.aload_n 0, 1) := by decide +kernel
theorem dX0_conjugated_22 : decode cX0_conjugated 22 = .ok (.getfield 27, 3) := by decide +kernel
theorem dX0_conjugated_25 : decode cX0_conjugated 25 = .ok (.aload_n 0, 1) := by decide +kernel
theorem dX0_conjugated_26 : decode cX0_conjugated 26 = .ok (.getfield 30, 3) := by decide +kernel
theorem dX0_conjugated_29 : decode cX0_conjugated 29 = .ok (.invokevirtual 69, 3) := by decide +kernel
theorem dX0_conjugated_32 : decode cX0_conjugated 32 = .ok (.return_, 1) := by decide +kernel
theorem dX0_doCommute_0 : decode cX0_doCommute 0 = .ok (.aload_n 0, 1) := by decide +kernel
theorem dX0_doCommute_1 : decode cX0_doCommute 1 = .ok (.aload_n 0, 1) := by decide +kernel
theorem dX0_doCommute_2 : decode cX0_doCommute 2 = .ok (.getfield 27, 3) := by decide +kernel
theorem dX0_doCommute_5 : decode cX0_doCommute 5 = .ok (.aload_n 1, 1) := by decide +kernel
theorem dX0_doCommute_6 : decode cX0_doCommute 6 = .ok (.aload_n 2, 1) := by decide +kernel
theorem dX0_doCommute_7 : decode cX0_doCommute 7 = .ok (.invokevirtual 69, 3) := by decide +kernel
theorem dX0_doCommute_10 : decode cX0_doCommute 10 = .ok (.aload_n 0, 1) := by decide +kernel
theorem dX0_doCommute_11 : decode cX0_doCommute 11 = .ok (.aload_n 0, 1) := by decide +kernel
theorem dX0_doCommute_12 : decode cX0_doCommute 12 = .ok (.getfield 30, 3) := by decide +kernel
theorem dX0_doCommute_15 : decode cX0_doCommute 15 = .ok (.aload_n 2, 1) := by decide +kernel
theorem dX0_doCommute_16 : decode cX0_doCommute 16 = .ok (.aload_n 1, 1) := by decide +kernel
theorem dX0_doCommute_17 : decode cX0_doCommute 17 = .ok (.invokevirtual 69, 3) := by decide +kernel
theorem dX0_doCommute_20 : decode cX0_doCommute 20 = .ok (.aload_n 0, 1) := by decide +kernel
theorem dX0_doCommute_21 : decode cX0_doCommute 21 = .ok (.getfield 27, 3) := by decide +kernel
theorem dX0_doCommute_24 : decode cX0_doCommute 24 = .ok (.aload_n 0, 1) := by decide +kernel
theorem dX0_doCommute_25 : decode cX0_doCommute 25 = .ok (.getfield 30, 3) := by decide +kernel
theorem dX0_doCommute_28 : decode cX0_doCommute 28 = .ok (.invokestatic 77, 3) := by decide +kernel
theorem dX0_doCommute_31 : decode cX0_doCommute 31 = .ok (.ireturn, 1) := by decide +kernel
theorem dX0_findPowers_0 : decode cX0_findPowers 0 = .ok (.aload_n 1, 1) := by decide +kernel
theorem dX0_findPowers_1 : decode cX0_findPowers 1 = .ok (.aload_n 0, 1) := by decide +kernel
theorem dX0_findPowers_2 : decode cX0_findPowers 2 = .ok (.getfield 18, 3) := by decide +kernel
theorem dX0_findPowers_5 : decode cX0_findPowers 5 = .ok (.invokestatic 81, 3) := by decide +kernel
theorem dX0_findPowers_8 : decode cX0_findPowers 8 = .ok (.aload_n 0, 1) := by decide +kernel
theorem dX0_findPowers_9 : decode cX0_findPowers 9 = .ok (.aload_n 0, 1) := by decide +kernel
theorem dX0_findPowers_10 : decode cX0_findPowers 10 = .ok (.getfield 21, 3) := by decide +kernel
theorem dX0_findPowers_13 : decode cX0_findPowers 13 = .ok (.aload_n 0, 1) := by decide +kernel
theorem dX0_findPowers_14 : decode cX0_findPowers 14 = .ok (.getfield 18, 3) := by decide +kernel
theorem dX0_findPowers_17 : decode cX0_findPowers 17 = .ok (.aload_n 0, 1) := by decide +kernel
theorem dX0_findPowers_18 : decode cX0_findPowers 18 = .ok (.getfield 18, 3) := by decide +kernel
theorem dX0_findPowers_21 : decode cX0_findPowers 21 = .ok (.invokevirtual 69, 3) := by decide +kernel
theorem dX0_findPowers_24 : decode cX0_findPowers 24 = .ok (.aload_n 0, 1) := by decide +kernel
theorem dX0_findPowers_25 : decode cX0_findPowers 25 = .ok (.aload_n 0, 1) := by decide +kernel
theorem dX0_findPowers_26 : decode cX0_findPowers 26 = .ok (.getfield 24, 3) := by decide +kernel
theorem dX0_findPowers_29 : decode cX0_findPowers 29 = .ok (.aload_n 0, 1) := by decide +kernel
theorem dX0_findPowers_30 : decode cX0_findPowers 30 = .ok (.getfield 21, 3) := by decide +kernel
theorem dX0_findPowers_33 : decode cX0_findPowers 33 = .ok (.aload_n 0, 1) := by decide +kernel
theorem dX0_findPowers_34 : decode cX0_findPowers 34 = .ok (.getfield 18, 3) := by decide +kernel
theorem dX0_findPowers_37 : decode cX0_findPowers 37 = .ok (.invokevirtual 69, 3) := by decide +kernel
theorem dX0_findPowers_40 : decode cX0_findPowers 40 = .ok (.return_, 1) := by decide +kernel
theorem dX0_powerNumber_0 : decode cX0_powerNumber 0 = .ok (.iload_n 1, 1) := by decide +kernel
theorem dX0_powerNumber_1 : decode cX0_powerNumber 1 = .ok (.ifCond .lt 9, 3) := by decide +kernel
theorem dX0_powerNumber_4 : decode cX0_powerNumber 4 = .ok (.iload_n 1, 1) := by decide +kernel
theorem dX0_powerNumber_5 : decode cX0_powerNumber 5 = .ok (.bipush 6, 2) := by decide +kernel
theorem dX0_powerNumber_7 : decode cX0_powerNumber 7 = .ok (.if_icmp .lt 5, 3) := by decide +kernel
theorem dX0_powerNumber_10 : decode cX0_powerNumber 10 = .ok (.lconst 0, 1) := by decide +kernel
theorem dX0_powerNumber_11 : decode cX0_powerNumber 11 = .ok (.lreturn, 1) := by decide +kernel
theorem dX0_powerNumber_12 : decode cX0_powerNumber 12 = .ok (.iload_n 2, 1) := by decide +kernel
theorem dX0_powerNumber_13 : decode cX0_powerNumber 13 = .ok (.tableswitch 81 1 3 #[27, 34, 52], 27) := by decide +kernel
theorem dX0_powerNumber_40 : decode cX0_powerNumber 40 = .ok (.aload_n 0, 1) := by decide +kernel
theorem dX0_powerNumber_41 : decode cX0_powerNumber 41 = .ok (.getfield 18, 3) := by decide +kernel
theorem dX0_powerNumber_44 : decode cX0_powerNumber 44 = .ok (.iload_n 1, 1) := by decide +kernel
theorem dX0_powerNumber_45 : decode cX0_powerNumber 45 = .ok (.laload, 1) := by decide +kernel
theorem dX0_powerNumber_46 : decode cX0_powerNumber 46 = .ok (.lreturn, 1) := by decide +kernel
theorem dX0_powerNumber_47 : decode cX0_powerNumber 47 = .ok (.aload_n 0, 1) := by decide +kernel
theorem dX0_powerNumber_48 : decode cX0_powerNumber 48 = .ok (.getfield 21, 3) := by decide +kernel
theorem dX0_powerNumber_51 : decode cX0_powerNumber 51 = .ok (.iload_n 1, 1) := by decide +kernel
theorem dX0_powerNumber_52 : decode cX0_powerNumber 52 = .ok (.laload, 1) := by decide +kernel
theorem dX0_powerNumber_53 : decode cX0_powerNumber 53 = .ok (.ldc2_w 84, 3) := by decide +kernel
theorem dX0_powerNumber_56 : decode cX0_powerNumber 56 = .ok (.aload_n 0, 1) := by decide +kernel
theorem dX0_powerNumber_57 : decode cX0_powerNumber 57 = .ok (.getfield 18, 3) := by decide +kernel
theorem dX0_powerNumber_60 : decode cX0_powerNumber 60 = .ok (.iload_n 1, 1) := by decide +kernel
theorem dX0_powerNumber_61 : decode cX0_powerNumber 61 = .ok (.laload, 1) := by decide +kernel
theorem dX0_powerNumber_62 : decode cX0_powerNumber 62 = .ok (.lmul, 1) := by decide +kernel
theorem dX0_powerNumber_63 : decode cX0_powerNumber 63 = .ok (.lsub, 1) := by decide +kernel
theorem dX0_powerNumber_64 : decode cX0_powerNumber 64 = .ok (.lreturn, 1) := by decide +kernel
theorem dX0_powerNumber_65 : decode cX0_powerNumber 65 = .ok (.aload_n 0, 1) := by decide +kernel
theorem dX0_powerNumber_66 : decode cX0_powerNumber 66 = .ok (.getfield 24, 3) := by decide +kernel
theorem dX0_powerNumber_69 : decode cX0_powerNumber 69 = .ok (.iload_n 1, 1) := by decide +kernel
theorem dX0_powerNumber_70 : decode cX0_powerNumber 70 = .ok (.laload, 1) := by decide +kernel
theorem dX0_powerNumber_71 : decode cX0_powerNumber 71 = .ok (.ldc2_w 86, 3) := by decide +kernel
theorem dX0_powerNumber_74 : decode cX0_powerNumber 74 = .ok (.aload_n 0, 1) := by decide +kernel
theorem dX0_powerNumber_75 : decode cX0_powerNumber 75 = .ok (.getfield 21, 3) := by decide +kernel
theorem dX0_powerNumber_78 : decode cX0_powerNumber 78 = .ok (.iload_n 1, 1) := by decide +kernel
theorem dX0_powerNumber_79 : decode cX0_powerNumber 79 = .ok (.laload, 1) := by decide +kernel
theorem dX0_powerNumber_80 : decode cX0_powerNumber 80 = .ok (.lmul, 1) := by decide +kernel
theorem dX0_powerNumber_81 : decode cX0_powerNumber 81 = .ok (.lsub, 1) := by decide +kernel
theorem dX0_powerNumber_82 : decode cX0_powerNumber 82 = .ok (.ldc2_w 86, 3) := by decide +kernel
theorem dX0_powerNumber_85 : decode cX0_powerNumber 85 = .ok (.aload_n 0, 1) := by decide +kernel
theorem dX0_powerNumber_86 : decode cX0_powerNumber 86 = .ok (.getfield 18, 3) := by decide +kernel
theorem dX0_powerNumber_89 : decode cX0_powerNumber 89 = .ok (.iload_n 1, 1) := by decide +kernel
theorem dX0_powerNumber_90 : decode cX0_powerNumber 90 = .ok (.laload, 1) := by decide +kernel
theorem dX0_powerNumber_91 : decode cX0_powerNumber 91 = .ok (.lmul, 1) := by decide +kernel
theorem dX0_powerNumber_92 : decode cX0_powerNumber 92 = .ok (.ladd, 1) := by decide +kernel
theorem dX0_powerNumber_93 : decode cX0_powerNumber 93 = .ok (.lreturn, 1) := by decide +kernel
theorem dX0_powerNumber_94 : decode cX0_powerNumber 94 = .ok (.lconst 0, 1) := by decide +kernel
theorem dX0_powerNumber_95 : decode cX0_powerNumber 95 = .ok (.lreturn, 1) := by decide +kernel
theorem dX0_raise_0 : decode cX0_raise 0 = .ok (.aload_n 0, 1) := by decide +kernel
theorem dX0_raise_1 : decode cX0_raise 1 = .ok (.aload_n 2, 1) := by decide +kernel
theorem dX0_raise_2 : decode cX0_raise 2 = .ok (.invokevirtual 88, 3) := by decide +kernel
theorem dX0_raise_5 : decode cX0_raise 5 = .ok (.iconst 0, 1) := by decide +kernel
theorem dX0_raise_6 : decode cX0_raise 6 = .ok (.istore 5, 2) := by decide +kernel
theorem dX0_raise_8 : decode cX0_raise 8 = .ok (.iload 5, 2) := by decide +kernel
theorem dX0_raise_10 : decode cX0_raise 10 = .ok (.bipush 6, 2) := by decide +kernel
theorem dX0_raise_12 : decode cX0_raise 12 = .ok (.if_icmp .ge 20, 3) := by decide +kernel
theorem dX0_raise_15 : decode cX0_raise 15 = .ok (.aload_n 1, 1) := by decide +kernel
theorem dX0_raise_16 : decode cX0_raise 16 = .ok (.iload 5, 2) := by decide +kernel
theorem dX0_raise_18 : decode cX0_raise 18 = .ok (.aload_n 0, 1) := by decide +kernel
theorem dX0_raise_19 : decode cX0_raise 19 = .ok (.iload 5, 2) := by decide +kernel
theorem dX0_raise_21 : decode cX0_raise 21 = .ok (.lload_n 3, 1) := by decide +kernel
theorem dX0_raise_22 : decode cX0_raise 22 = .ok (.invokevirtual 92, 3) := by decide +kernel
theorem dX0_raise_25 : decode cX0_raise 25 = .ok (.lastore, 1) := by decide +kernel
theorem dX0_raise_26 : decode cX0_raise 26 = .ok (.iinc 5 1, 3) := by decide +kernel
theorem dX0_raise_29 : decode cX0_raise 29 = .ok (.goto (-21), 3) := by decide +kernel
theorem dX0_raise_32 : decode cX0_raise 32 = .ok (.return_, 1) := by decide +kernel
theorem dX0_powerAt_0 : decode cX0_powerAt 0 = .ok (.aload_n 0, 1) := by decide +kernel
theorem dX0_powerAt_1 : decode cX0_powerAt 1 = .ok (.iload_n 1, 1) := by decide +kernel
theorem dX0_powerAt_2 : decode cX0_powerAt 2 = .ok (.iconst 1, 1) := by decide +kernel
theorem dX0_powerAt_3 : decode cX0_powerAt 3 = .ok (.invokevirtual 96, 3) := by decide +kernel
theorem dX0_powerAt_6 : decode cX0_powerAt 6 = .ok (.lload_n 2, 1) := by decide +kernel
theorem dX0_powerAt_7 : decode cX0_powerAt 7 = .ok (.lmul, 1) := by decide +kernel
theorem dX0_powerAt_8 : decode cX0_powerAt 8 = .ok (.aload_n 0, 1) := by decide +kernel
theorem dX0_powerAt_9 : decode cX0_powerAt 9 = .ok (.iload_n 1, 1) := by decide +kernel
theorem dX0_powerAt_10 : decode cX0_powerAt 10 = .ok (.iconst 2, 1) := by decide +kernel
theorem dX0_powerAt_11 : decode cX0_powerAt 11 = .ok (.invokevirtual 96, 3) := by decide +kernel
theorem dX0_powerAt_14 : decode cX0_powerAt 14 = .ok (.lload_n 2, 1) := by decide +kernel
theorem dX0_powerAt_15 : decode cX0_powerAt 15 = .ok (.lload_n 2, 1) := by decide +kernel
theorem dX0_powerAt_16 : decode cX0_powerAt 16 = .ok (.lconst 1, 1) := by decide +kernel
theorem dX0_powerAt_17 : decode cX0_powerAt 17 = .ok (.lsub, 1) := by decide +kernel
theorem dX0_powerAt_18 : decode cX0_powerAt 18 = .ok (.lmul, 1) := by decide +kernel
theorem dX0_powerAt_19 : decode cX0_powerAt 19 = .ok (.ldc2_w 84, 3) := by decide +kernel
theorem dX0_powerAt_22 : decode cX0_powerAt 22 = .ok (.ldiv, 1) := by decide +kernel
theorem dX0_powerAt_23 : decode cX0_powerAt 23 = .ok (.lmul, 1) := by decide +kernel
theorem dX0_powerAt_24 : decode cX0_powerAt 24 = .ok (.ladd, 1) := by decide +kernel
theorem dX0_powerAt_25 : decode cX0_powerAt 25 = .ok (.aload_n 0, 1) := by decide +kernel
theorem dX0_powerAt_26 : decode cX0_powerAt 26 = .ok (.iload_n 1, 1) := by decide +kernel
theorem dX0_powerAt_27 : decode cX0_powerAt 27 = .ok (.iconst 3, 1) := by decide +kernel
theorem dX0_powerAt_28 : decode cX0_powerAt 28 = .ok (.invokevirtual 96, 3) := by decide +kernel
theorem dX0_powerAt_31 : decode cX0_powerAt 31 = .ok (.lload_n 2, 1) := by decide +kernel
theorem dX0_powerAt_32 : decode cX0_powerAt 32 = .ok (.lload_n 2, 1) := by decide +kernel
theorem dX0_powerAt_33 : decode cX0_powerAt 33 = .ok (.lconst 1, 1) := by decide +kernel
theorem dX0_powerAt_34 : decode cX0_powerAt 34 = .ok (.lsub, 1) := by decide +kernel
theorem dX0_powerAt_35 : decode cX0_powerAt 35 = .ok (.lmul, 1) := by decide +kernel
theorem dX0_powerAt_36 : decode cX0_powerAt 36 = .ok (.lload_n 2, 1) := by decide +kernel
theorem dX0_powerAt_37 : decode cX0_powerAt 37 = .ok (.ldc2_w 84, 3) := by decide +kernel
theorem dX0_powerAt_40 : decode cX0_powerAt 40 = .ok (.lsub, 1) := by decide +kernel
theorem dX0_powerAt_41 : decode cX0_powerAt 41 = .ok (.lmul, 1) := by decide +kernel
theorem dX0_powerAt_42 : decode cX0_powerAt 42 = .ok (.ldc2_w 100, 3) := by decide +kernel
theorem dX0_powerAt_45 : decode cX0_powerAt 45 = .ok (.ldiv, 1) := by decide +kernel
theorem dX0_powerAt_46 : decode cX0_powerAt 46 = .ok (.lmul, 1) := by decide +kernel
theorem dX0_powerAt_47 : decode cX0_powerAt 47 = .ok (.ladd, 1) := by decide +kernel
theorem dX0_powerAt_48 : decode cX0_powerAt 48 = .ok (.lreturn, 1) := by decide +kernel
theorem dX0_extract_0 : decode cX0_extract 0 = .ok (.lload_n 3, 1) := by decide +kernel
theorem dX0_extract_1 : decode cX0_extract 1 = .ok (.lconst 1, 1) := by decide +kernel
theorem dX0_extract_2 : decode cX0_extract 2 = .ok (.lcmp, 1) := by decide +kernel
theorem dX0_extract_3 : decode cX0_extract 3 = .ok (.ifCond .ge 5, 3) := by decide +kernel
theorem dX0_extract_6 : decode cX0_extract 6 = .ok (.iconst 0, 1) := by decide +kernel
theorem dX0_extract_7 : decode cX0_extract 7 = .ok (.ireturn, 1) := by decide +kernel
theorem dX0_extract_8 : decode cX0_extract 8 = .ok (.iconst 0, 1) := by decide +kernel
theorem dX0_extract_9 : decode cX0_extract 9 = .ok (.istore 5, 2) := by decide +kernel
theorem dX0_extract_11 : decode cX0_extract 11 = .ok (.iload 5, 2) := by decide +kernel
theorem dX0_extract_13 : decode cX0_extract 13 = .ok (.bipush 6, 2) := by decide +kernel
theorem dX0_extract_15 : decode cX0_extract 15 = .ok (.if_icmp .ge 170, 3) := by decide +kernel
theorem dX0_extract_18 : decode cX0_extract 18 = .ok (.aload_n 0, 1) := by decide +kernel
theorem dX0_extract_19 : decode cX0_extract 19 = .ok (.iload 5, 2) := by decide +kernel
theorem dX0_extract_21 : decode cX0_extract 21 = .ok (.lconst 0, 1) := by decide +kernel
theorem dX0_extract_22 : decode cX0_extract 22 = .ok (.invokevirtual 102, 3) := by decide +kernel
theorem dX0_extract_25 : decode cX0_extract 25 = .ok (.aload_n 0, 1) := by decide +kernel
theorem dX0_extract_26 : decode cX0_extract 26 = .ok (.getfield 21, 3) := by decide +kernel
theorem dX0_extract_29 : decode cX0_extract 29 = .ok (.iload 5, 2) := by decide +kernel
theorem dX0_extract_31 : decode cX0_extract 31 = .ok (.aload_n 0, 1) := by decide +kernel
theorem dX0_extract_32 : decode cX0_extract 32 = .ok (.getfield 33, 3) := by decide +kernel
theorem dX0_extract_35 : decode cX0_extract 35 = .ok (.getfield 59, 3) := by decide +kernel
theorem dX0_extract_38 : decode cX0_extract 38 = .ok (.iload 5, 2) := by decide +kernel
theorem dX0_extract_40 : decode cX0_extract 40 = .ok (.aaload, 1) := by decide +kernel
theorem dX0_extract_41 : decode cX0_extract 41 = .ok (.aload_n 0, 1) := by decide +kernel
theorem dX0_extract_42 : decode cX0_extract 42 = .ok (.getfield 9, 3) := by decide +kernel
theorem dX0_extract_45 : decode cX0_extract 45 = .ok (.invokevirtual 63, 3) := by decide +kernel
theorem dX0_extract_48 : decode cX0_extract 48 = .ok (.lastore, 1) := by decide +kernel
theorem dX0_extract_49 : decode cX0_extract 49 = .ok (.aload_n 0, 1) := by decide +kernel
theorem dX0_extract_50 : decode cX0_extract 50 = .ok (.getfield 15, 3) := by decide +kernel
theorem dX0_extract_53 : decode cX0_extract 53 = .ok (.iload 5, 2) := by decide +kernel
theorem dX0_extract_55 : decode cX0_extract 55 = .ok (.aload_n 0, 1) := by decide +kernel
theorem dX0_extract_56 : decode cX0_extract 56 = .ok (.getfield 21, 3) := by decide +kernel
theorem dX0_extract_59 : decode cX0_extract 59 = .ok (.iload 5, 2) := by decide +kernel
theorem dX0_extract_61 : decode cX0_extract 61 = .ok (.laload, 1) := by decide +kernel
theorem dX0_extract_62 : decode cX0_extract 62 = .ok (.invokestatic 53, 3) := by decide +kernel
theorem dX0_extract_65 : decode cX0_extract 65 = .ok (.aload_n 0, 1) := by decide +kernel
theorem dX0_extract_66 : decode cX0_extract 66 = .ok (.getfield 24, 3) := by decide +kernel
theorem dX0_extract_69 : decode cX0_extract 69 = .ok (.iload 5, 2) := by decide +kernel
theorem dX0_extract_71 : decode cX0_extract 71 = .ok (.aload_n 0, 1) := by decide +kernel
theorem dX0_extract_72 : decode cX0_extract 72 = .ok (.getfield 33, 3) := by decide +kernel
theorem dX0_extract_75 : decode cX0_extract 75 = .ok (.getfield 59, 3) := by decide +kernel
theorem dX0_extract_78 : decode cX0_extract 78 = .ok (.iload 5, 2) := by decide +kernel
theorem dX0_extract_80 : decode cX0_extract 80 = .ok (.aaload, 1) := by decide +kernel
theorem dX0_extract_81 : decode cX0_extract 81 = .ok (.aload_n 0, 1) := by decide +kernel
theorem dX0_extract_82 : decode cX0_extract 82 = .ok (.getfield 15, 3) := by decide +kernel
theorem dX0_extract_85 : decode cX0_extract 85 = .ok (.invokevirtual 63, 3) := by decide +kernel
theorem dX0_extract_88 : decode cX0_extract 88 = .ok (.lastore, 1) := by decide +kernel
theorem dX0_extract_89 : decode cX0_extract 89 = .ok (.aload_n 2, 1) := by decide +kernel
theorem dX0_extract_90 : decode cX0_extract 90 = .ok (.iload 5, 2) := by decide +kernel
theorem dX0_extract_92 : decode cX0_extract 92 = .ok (.laload, 1) := by decide +kernel
theorem dX0_extract_93 : decode cX0_extract 93 = .ok (.aload_n 0, 1) := by decide +kernel
theorem dX0_extract_94 : decode cX0_extract 94 = .ok (.iload 5, 2) := by decide +kernel
theorem dX0_extract_96 : decode cX0_extract 96 = .ok (.lload_n 3, 1) := by decide +kernel
theorem dX0_extract_97 : decode cX0_extract 97 = .ok (.invokevirtual 92, 3) := by decide +kernel
theorem dX0_extract_100 : decode cX0_extract 100 = .ok (.lsub, 1) := by decide +kernel
theorem dX0_extract_101 : decode cX0_extract 101 = .ok (.lstore 6, 2) := by decide +kernel
theorem dX0_extract_103 : decode cX0_extract 103 = .ok (.lload 6, 2) := by decide +kernel
theorem dX0_extract_105 : decode cX0_extract 105 = .ok (.lload_n 3, 1) := by decide +kernel
theorem dX0_extract_106 : decode cX0_extract 106 = .ok (.ldiv, 1) := by decide +kernel
theorem dX0_extract_107 : decode cX0_extract 107 = .ok (.lstore 8, 2) := by decide +kernel
theorem dX0_extract_109 : decode cX0_extract 109 = .ok (.lload 8, 2) := by decide +kernel
theorem dX0_extract_111 : decode cX0_extract 111 = .ok (.lload_n 3, 1) := by decide +kernel
theorem dX0_extract_112 : decode cX0_extract 112 = .ok (.lmul, 1) := by decide +kernel
theorem dX0_extract_113 : decode cX0_extract 113 = .ok (.lload 6, 2) := by decide +kernel
theorem dX0_extract_115 : decode cX0_extract 115 = .ok (.lcmp, 1) := by decide +kernel
theorem dX0_extract_116 : decode cX0_extract 116 = .ok (.ifCond .ne 21, 3) := by decide +kernel
theorem dX0_extract_119 : decode cX0_extract 119 = .ok (.lload 8, 2) := by decide +kernel
theorem dX0_extract_121 : decode cX0_extract 121 = .ok (.ldc2_w 106, 3) := by decide +kernel
theorem dX0_extract_124 : decode cX0_extract 124 = .ok (.lcmp, 1) := by decide +kernel
theorem dX0_extract_125 : decode cX0_extract 125 = .ok (.ifCond .lt 12, 3) := by decide +kernel
theorem dX0_extract_128 : decode cX0_extract 128 = .ok (.lload 8, 2) := by decide +kernel
theorem dX0_extract_130 : decode cX0_extract 130 = .ok (.ldc2_w 108, 3) := by decide +kernel
theorem dX0_extract_133 : decode cX0_extract 133 = .ok (.lcmp, 1) := by decide +kernel
theorem dX0_extract_134 : decode cX0_extract 134 = .ok (.ifCond .le 5, 3) := by decide +kernel
theorem dX0_extract_137 : decode cX0_extract 137 = .ok (.iconst 0, 1) := by decide +kernel
theorem dX0_extract_138 : decode cX0_extract 138 = .ok (.ireturn, 1) := by decide +kernel
theorem dX0_extract_139 : decode cX0_extract 139 = .ok (.aload_n 0, 1) := by decide +kernel
theorem dX0_extract_140 : decode cX0_extract 140 = .ok (.iload 5, 2) := by decide +kernel
theorem dX0_extract_142 : decode cX0_extract 142 = .ok (.lload 8, 2) := by decide +kernel
theorem dX0_extract_144 : decode cX0_extract 144 = .ok (.invokevirtual 102, 3) := by decide +kernel
theorem dX0_extract_147 : decode cX0_extract 147 = .ok (.aload_n 0, 1) := by decide +kernel
theorem dX0_extract_148 : decode cX0_extract 148 = .ok (.getfield 21, 3) := by decide +kernel
theorem dX0_extract_151 : decode cX0_extract 151 = .ok (.iload 5, 2) := by decide +kernel
theorem dX0_extract_153 : decode cX0_extract 153 = .ok (.dup2, 1) := by decide +kernel
theorem dX0_extract_154 : decode cX0_extract 154 = .ok (.laload, 1) := by decide +kernel
theorem dX0_extract_155 : decode cX0_extract 155 = .ok (.ldc2_w 84, 3) := by decide +kernel
theorem dX0_extract_158 : decode cX0_extract 158 = .ok (.lload 8, 2) := by decide +kernel
theorem dX0_extract_160 : decode cX0_extract 160 = .ok (.lmul, 1) := by decide +kernel
theorem dX0_extract_161 : decode cX0_extract 161 = .ok (.ladd, 1) := by decide +kernel
theorem dX0_extract_162 : decode cX0_extract 162 = .ok (.lastore, 1) := by decide +kernel
theorem dX0_extract_163 : decode cX0_extract 163 = .ok (.aload_n 0, 1) := by decide +kernel
theorem dX0_extract_164 : decode cX0_extract 164 = .ok (.getfield 15, 3) := by decide +kernel
theorem dX0_extract_167 : decode cX0_extract 167 = .ok (.iload 5, 2) := by decide +kernel
theorem dX0_extract_169 : decode cX0_extract 169 = .ok (.aload_n 0, 1) := by decide +kernel
theorem dX0_extract_170 : decode cX0_extract 170 = .ok (.getfield 21, 3) := by decide +kernel
theorem dX0_extract_173 : decode cX0_extract 173 = .ok (.iload 5, 2) := by decide +kernel
theorem dX0_extract_175 : decode cX0_extract 175 = .ok (.laload, 1) := by decide +kernel
theorem dX0_extract_176 : decode cX0_extract 176 = .ok (.invokestatic 53, 3) := by decide +kernel
theorem dX0_extract_179 : decode cX0_extract 179 = .ok (.iinc 5 1, 3) := by decide +kernel
theorem dX0_extract_182 : decode cX0_extract 182 = .ok (.goto (-171), 3) := by decide +kernel
theorem dX0_extract_185 : decode cX0_extract 185 = .ok (.aload_n 0, 1) := by decide +kernel
theorem dX0_extract_186 : decode cX0_extract 186 = .ok (.getfield 18, 3) := by decide +kernel
theorem dX0_extract_189 : decode cX0_extract 189 = .ok (.aload_n 1, 1) := by decide +kernel
theorem dX0_extract_190 : decode cX0_extract 190 = .ok (.invokestatic 81, 3) := by decide +kernel
theorem dX0_extract_193 : decode cX0_extract 193 = .ok (.iconst 1, 1) := by decide +kernel
theorem dX0_extract_194 : decode cX0_extract 194 = .ok (.ireturn, 1) := by decide +kernel
theorem dX0_putRoot_0 : decode cX0_putRoot 0 = .ok (.aload_n 0, 1) := by decide +kernel
theorem dX0_putRoot_1 : decode cX0_putRoot 1 = .ok (.getfield 18, 3) := by decide +kernel
theorem dX0_putRoot_4 : decode cX0_putRoot 4 = .ok (.iload_n 1, 1) := by decide +kernel
theorem dX0_putRoot_5 : decode cX0_putRoot 5 = .ok (.lload_n 2, 1) := by decide +kernel
theorem dX0_putRoot_6 : decode cX0_putRoot 6 = .ok (.lastore, 1) := by decide +kernel
theorem dX0_putRoot_7 : decode cX0_putRoot 7 = .ok (.aload_n 0, 1) := by decide +kernel
theorem dX0_putRoot_8 : decode cX0_putRoot 8 = .ok (.getfield 9, 3) := by decide +kernel
theorem dX0_putRoot_11 : decode cX0_putRoot 11 = .ok (.iload_n 1, 1) := by decide +kernel
theorem dX0_putRoot_12 : decode cX0_putRoot 12 = .ok (.lload_n 2, 1) := by decide +kernel
theorem dX0_putRoot_13 : decode cX0_putRoot 13 = .ok (.invokestatic 53, 3) := by decide +kernel
theorem dX0_putRoot_16 : decode cX0_putRoot 16 = .ok (.aload_n 0, 1) := by decide +kernel
theorem dX0_putRoot_17 : decode cX0_putRoot 17 = .ok (.getfield 9, 3) := by decide +kernel
theorem dX0_putRoot_20 : decode cX0_putRoot 20 = .ok (.bipush 6, 2) := by decide +kernel
theorem dX0_putRoot_22 : decode cX0_putRoot 22 = .ok (.iload_n 1, 1) := by decide +kernel
theorem dX0_putRoot_23 : decode cX0_putRoot 23 = .ok (.iadd, 1) := by decide +kernel
theorem dX0_putRoot_24 : decode cX0_putRoot 24 = .ok (.lload_n 2, 1) := by decide +kernel
theorem dX0_putRoot_25 : decode cX0_putRoot 25 = .ok (.invokestatic 53, 3) := by decide +kernel
theorem dX0_putRoot_28 : decode cX0_putRoot 28 = .ok (.aload_n 0, 1) := by decide +kernel
theorem dX0_putRoot_29 : decode cX0_putRoot 29 = .ok (.getfield 15, 3) := by decide +kernel
theorem dX0_putRoot_32 : decode cX0_putRoot 32 = .ok (.bipush 6, 2) := by decide +kernel
theorem dX0_putRoot_34 : decode cX0_putRoot 34 = .ok (.iload_n 1, 1) := by decide +kernel
theorem dX0_putRoot_35 : decode cX0_putRoot 35 = .ok (.iadd, 1) := by decide +kernel
theorem dX0_putRoot_36 : decode cX0_putRoot 36 = .ok (.lload_n 2, 1) := by decide +kernel
theorem dX0_putRoot_37 : decode cX0_putRoot 37 = .ok (.invokestatic 53, 3) := by decide +kernel
theorem dX0_putRoot_40 : decode cX0_putRoot 40 = .ok (.return_, 1) := by decide +kernel
theorem dX1_init_0 : decode cX1_init 0 = .ok (.aload_n 0, 1) := by decide +kernel
theorem dX1_init_1 : decode cX1_init 1 = .ok (.invokespecial 3, 3) := by decide +kernel
theorem dX1_init_4 : decode cX1_init 4 = .ok (.aload_n 0, 1) := by decide +kernel
theorem dX1_init_5 : decode cX1_init 5 = .ok (.iconst 0, 1) := by decide +kernel
theorem dX1_init_6 : decode cX1_init 6 = .ok (.putfield 9, 3) := by decide +kernel
theorem dX1_init_9 : decode cX1_init 9 = .ok (.aload_n 0, 1) := by decide +kernel
theorem dX1_init_10 : decode cX1_init 10 = .ok (.iconst 5, 1) := by decide +kernel
theorem dX1_init_11 : decode cX1_init 11 = .ok (.newarray .int, 2) := by decide +kernel
theorem dX1_init_13 : decode cX1_init 13 = .ok (.putfield 15, 3) := by decide +kernel
theorem dX1_init_16 : decode cX1_init 16 = .ok (.aload_n 0, 1) := by decide +kernel
theorem dX1_init_17 : decode cX1_init 17 = .ok (.sipush 6006, 3) := by decide +kernel
theorem dX1_init_20 : decode cX1_init 20 = .ok (.newarray .long, 2) := by decide +kernel
theorem dX1_init_22 : decode cX1_init 22 = .ok (.putfield 19, 3) := by decide +kernel
theorem dX1_init_25 : decode cX1_init 25 = .ok (.aload_n 0, 1) := by decide +kernel
theorem dX1_init_26 : decode cX1_init 26 = .ok (.sipush 4096, 3) := by decide +kernel
theorem dX1_init_29 : decode cX1_init 29 = .ok (.newarray .int, 2) := by decide +kernel
theorem dX1_init_31 : decode cX1_init 31 = .ok (.putfield 23, 3) := by decide +kernel
theorem dX1_init_34 : decode cX1_init 34 = .ok (.aload_n 0, 1) := by decide +kernel
theorem dX1_init_35 : decode cX1_init 35 = .ok (.iconst 0, 1) := by decide +kernel
theorem dX1_init_36 : decode cX1_init 36 = .ok (.putfield 26, 3) := by decide +kernel
theorem dX1_init_39 : decode cX1_init 39 = .ok (.aload_n 0, 1) := by decide +kernel
theorem dX1_init_40 : decode cX1_init 40 = .ok (.bipush 6, 2) := by decide +kernel
theorem dX1_init_42 : decode cX1_init 42 = .ok (.newarray .long, 2) := by decide +kernel
theorem dX1_init_44 : decode cX1_init 44 = .ok (.putfield 29, 3) := by decide +kernel
theorem dX1_init_47 : decode cX1_init 47 = .ok (.aload_n 0, 1) := by decide +kernel
theorem dX1_init_48 : decode cX1_init 48 = .ok (.bipush 6, 2) := by decide +kernel
theorem dX1_init_50 : decode cX1_init 50 = .ok (.newarray .long, 2) := by decide +kernel
theorem dX1_init_52 : decode cX1_init 52 = .ok (.putfield 32, 3) := by decide +kernel
theorem dX1_init_55 : decode cX1_init 55 = .ok (.aload_n 0, 1) := by decide +kernel
theorem dX1_init_56 : decode cX1_init 56 = .ok (.bipush 6, 2) := by decide +kernel
theorem dX1_init_58 : decode cX1_init 58 = .ok (.newarray .long, 2) := by decide +kernel
theorem dX1_init_60 : decode cX1_init 60 = .ok (.putfield 35, 3) := by decide +kernel
theorem dX1_init_63 : decode cX1_init 63 = .ok (.aload_n 0, 1) := by decide +kernel
theorem dX1_init_64 : decode cX1_init 64 = .ok (.aload_n 1, 1) := by decide +kernel
theorem dX1_init_65 : decode cX1_init 65 = .ok (.putfield 38, 3) := by decide +kernel
theorem dX1_init_68 : decode cX1_init 68 = .ok (.aload_n 0, 1) := by decide +kernel
theorem dX1_init_69 : decode cX1_init 69 = .ok (.aload_n 2, 1) := by decide +kernel
theorem dX1_init_70 : decode cX1_init 70 = .ok (.putfield 42, 3) := by decide +kernel
theorem dX1_init_73 : decode cX1_init 73 = .ok (.return_, 1) := by decide +kernel
theorem dX1_sizeOf_0 : decode cX1_sizeOf 0 = .ok (.aload_n 0, 1) := by decide +kernel
theorem dX1_sizeOf_1 : decode cX1_sizeOf 1 = .ok (.invokevirtual 46, 3) := by decide +kernel
theorem dX1_sizeOf_4 : decode cX1_sizeOf 4 = .ok (.iload_n 1, 1) := by decide +kernel
theorem dX1_sizeOf_5 : decode cX1_sizeOf 5 = .ok (.ifCond .lt 17, 3) := by decide +kernel
theorem dX1_sizeOf_8 : decode cX1_sizeOf 8 = .ok (.iload_n 1, 1) := by decide +kernel
theorem dX1_sizeOf_9 : decode cX1_sizeOf 9 = .ok (.iconst 4, 1) := by decide +kernel
theorem dX1_sizeOf_10 : decode cX1_sizeOf 10 = .ok (.if_icmp .gt 12, 3) := by decide +kernel
theorem dX1_sizeOf_13 : decode cX1_sizeOf 13 = .ok (.aload_n 0, 1) := by decide +kernel
theorem dX1_sizeOf_14 : decode cX1_sizeOf 14 = .ok (.getfield 15, 3) := by decide +kernel
theorem dX1_sizeOf_17 : decode cX1_sizeOf 17 = .ok (.iload_n 1, 1) := by decide +kernel
theorem dX1_sizeOf_18 : decode cX1_sizeOf 18 = .ok (.iaload, 1) := by decide +kernel
theorem dX1_sizeOf_19 : decode cX1_sizeOf 19 = .ok (.goto 4, 3) := by decide +kernel
theorem dX1_sizeOf_22 : decode cX1_sizeOf 22 = .ok (.iconst (-1), 1) := by decide +kernel
theorem dX1_sizeOf_23 : decode cX1_sizeOf 23 = .ok (.ireturn, 1) := by decide +kernel
theorem dX1_levelOf_0 : decode cX1_levelOf 0 = .ok (.aload_n 0, 1) := by decide +kernel
theorem dX1_levelOf_1 : decode cX1_levelOf 1 = .ok (.invokevirtual 46, 3) := by decide +kernel
theorem dX1_levelOf_4 : decode cX1_levelOf 4 = .ok (.aload_n 0, 1) := by decide +kernel
theorem dX1_levelOf_5 : decode cX1_levelOf 5 = .ok (.getfield 23, 3) := by decide +kernel
theorem dX1_levelOf_8 : decode cX1_levelOf 8 = .ok (.aload_n 0, 1) := by decide +kernel
theorem dX1_levelOf_9 : decode cX1_levelOf 9 = .ok (.aload_n 1, 1) := by decide +kernel
theorem dX1_levelOf_10 : decode cX1_levelOf 10 = .ok (.invokevirtual 49, 3) := by decide +kernel
theorem dX1_levelOf_13 : decode cX1_levelOf 13 = .ok (.iaload, 1) := by decide +kernel
theorem dX1_levelOf_14 : decode cX1_levelOf 14 = .ok (.iconst 1, 1) := by decide +kernel
theorem dX1_levelOf_15 : decode cX1_levelOf 15 = .ok (.isub, 1) := by decide +kernel
theorem dX1_levelOf_16 : decode cX1_levelOf 16 = .ok (.istore_n 2, 1) := by decide +kernel
theorem dX1_levelOf_17 : decode cX1_levelOf 17 = .ok (.iconst 0, 1) := by decide +kernel
theorem dX1_levelOf_18 : decode cX1_levelOf 18 = .ok (.istore_n 3, 1) := by decide +kernel
theorem dX1_levelOf_19 : decode cX1_levelOf 19 = .ok (.iload_n 3, 1) := by decide +kernel
theorem dX1_levelOf_20 : decode cX1_levelOf 20 = .ok (.iconst 4, 1) := by decide +kernel
theorem dX1_levelOf_21 : decode cX1_levelOf 21 = .ok (.if_icmp .gt 35, 3) := by decide +kernel
theorem dX1_levelOf_24 : decode cX1_levelOf 24 = .ok (.iload_n 2, 1) := by decide +kernel
theorem dX1_levelOf_25 : decode cX1_levelOf 25 = .ok (.ifCond .lt 31, 3) := by decide +kernel
theorem dX1_levelOf_28 : decode cX1_levelOf 28 = .ok (.aload_n 0, 1) := by decide +kernel
theorem dX1_levelOf_29 : decode cX1_levelOf 29 = .ok (.getfield 15, 3) := by decide +kernel
theorem dX1_levelOf_32 : decode cX1_levelOf 32 = .ok (.iload_n 3, 1) := by decide +kernel
theorem dX1_levelOf_33 : decode cX1_levelOf 33 = .ok (.iaload, 1) := by decide +kernel
theorem dX1_levelOf_34 : decode cX1_levelOf 34 = .ok (.iconst (-1), 1) := by decide +kernel
theorem dX1_levelOf_35 : decode cX1_levelOf 35 = .ok (.if_icmp .eq 21, 3) := by decide +kernel
theorem dX1_levelOf_38 : decode cX1_levelOf 38 = .ok (.iload_n 2, 1) := by decide +kernel
theorem dX1_levelOf_39 : decode cX1_levelOf 39 = .ok (.aload_n 0, 1) := by decide +kernel
theorem dX1_levelOf_40 : decode cX1_levelOf 40 = .ok (.getfield 15, 3) := by decide +kernel
theorem dX1_levelOf_43 : decode cX1_levelOf 43 = .ok (.iload_n 3, 1) := by decide +kernel
theorem dX1_levelOf_44 : decode cX1_levelOf 44 = .ok (.iaload, 1) := by decide +kernel
theorem dX1_levelOf_45 : decode cX1_levelOf 45 = .ok (.if_icmp .ge 5, 3) := by decide +kernel
theorem dX1_levelOf_48 : decode cX1_levelOf 48 = .ok (.iload_n 3, 1) := by decide +kernel
theorem dX1_levelOf_49 : decode cX1_levelOf 49 = .ok (.ireturn, 1) := by decide +kernel
theorem dX1_levelOf_50 : decode cX1_levelOf 50 = .ok (.iinc 3 1, 3) := by decide +kernel
theorem dX1_levelOf_53 : decode cX1_levelOf 53 = .ok (.goto (-34), 3) := by decide +kernel
theorem dX1_levelOf_56 : decode cX1_levelOf 56 = .ok (.iconst (-1), 1) := by decide +kernel
theorem dX1_levelOf_57 : decode cX1_levelOf 57 = .ok (.ireturn, 1) := by decide +kernel
theorem dX1_find_0 : decode cX1_find 0 = .ok (.aload_n 0, 1) := by decide +kernel
theorem dX1_find_1 : decode cX1_find 1 = .ok (.getfield 9, 3) := by decide +kernel
theorem dX1_find_4 : decode cX1_find 4 = .ok (.aload_n 0, 1) := by decide +kernel
theorem dX1_find_5 : decode cX1_find 5 = .ok (.getfield 38, 3) := by decide +kernel
theorem dX1_find_8 : decode cX1_find 8 = .ok (.getfield 53, 3) := by decide +kernel
theorem dX1_find_11 : decode cX1_find 11 = .ok (.if_icmp .ne 4, 3) := by decide +kernel
theorem dX1_find_14 : decode cX1_find 14 = .ok (.return_, 1) := by decide +kernel
theorem dX1_find_15 : decode cX1_find 15 = .ok (.aload_n 0, 1) := by decide +kernel
theorem dX1_find_16 : decode cX1_find 16 = .ok (.aload_n 0, 1) := by decide +kernel
theorem dX1_find_17 : decode cX1_find 17 = .ok (.getfield 38, 3) := by decide +kernel
theorem dX1_find_20 : decode cX1_find 20 = .ok (.getfield 53, 3) := by decide +kernel
theorem dX1_find_23 : decode cX1_find 23 = .ok (.putfield 9, 3) := by decide +kernel
theorem dX1_find_26 : decode cX1_find 26 = .ok (.aload_n 0, 1) := by decide +kernel
theorem dX1_find_27 : decode cX1_find 27 = .ok (.getfield 23, 3) := by decide +kernel
theorem dX1_find_30 : decode cX1_find 30 = .ok (.iconst 0, 1) := by decide +kernel
theorem dX1_find_31 : decode cX1_find 31 = .ok (.invokestatic 56, 3) := by decide +kernel
theorem dX1_find_34 : decode cX1_find 34 = .ok (.aload_n 0, 1) := by decide +kernel
theorem dX1_find_35 : decode cX1_find 35 = .ok (.iconst 0, 1) := by decide +kernel
theorem dX1_find_36 : decode cX1_find 36 = .ok (.putfield 26, 3) := by decide +kernel
theorem dX1_find_39 : decode cX1_find 39 = .ok (.aload_n 0, 1) := by decide +kernel
theorem dX1_find_40 : decode cX1_find 40 = .ok (.getfield 35, 3) := by decide +kernel
theorem dX1_find_43 : decode cX1_find 43 = .ok (.lconst 0, 1) := by decide +kernel
theorem dX1_find_44 : decode cX1_find 44 = .ok (.invokestatic 62, 3) := by decide +kernel
theorem dX1_find_47 : decode cX1_find 47 = .ok (.aload_n 0, 1) := by decide +kernel
theorem dX1_find_48 : decode cX1_find 48 = .ok (.invokevirtual 65, 3) := by decide +kernel
theorem dX1_find_51 : decode cX1_find 51 = .ok (.aload_n 0, 1) := by decide +kernel
theorem dX1_find_52 : decode cX1_find 52 = .ok (.getfield 15, 3) := by decide +kernel
theorem dX1_find_55 : decode cX1_find 55 = .ok (.iconst 0, 1) := by decide +kernel
theorem dX1_find_56 : decode cX1_find 56 = .ok (.aload_n 0, 1) := by decide +kernel
theorem dX1_find_57 : decode cX1_find 57 = .ok (.getfield 26, 3) := by decide +kernel
theorem dX1_find_60 : decode cX1_find 60 = .ok (.iastore, 1) := by decide +kernel
theorem dX1_find_61 : decode cX1_find 61 = .ok (.iconst 0, 1) := by decide +kernel
theorem dX1_find_62 : decode cX1_find 62 = .ok (.istore_n 1, 1) := by decide +kernel
theorem dX1_find_63 : decode cX1_find 63 = .ok (.iconst 1, 1) := by decide +kernel
theorem dX1_find_64 : decode cX1_find 64 = .ok (.istore_n 2, 1) := by decide +kernel
theorem dX1_find_65 : decode cX1_find 65 = .ok (.iload_n 2, 1) := by decide +kernel
theorem dX1_find_66 : decode cX1_find 66 = .ok (.iconst 4, 1) := by decide +kernel
theorem dX1_find_67 : decode cX1_find 67 = .ok (.if_icmp .gt 46, 3) := by decide +kernel
theorem dX1_find_70 : decode cX1_find 70 = .ok (.aload_n 0, 1) := by decide +kernel
theorem dX1_find_71 : decode cX1_find 71 = .ok (.getfield 26, 3) := by decide +kernel
theorem dX1_find_74 : decode cX1_find 74 = .ok (.istore_n 3, 1) := by decide +kernel
theorem dX1_find_75 : decode cX1_find 75 = .ok (.aload_n 0, 1) := by decide +kernel
theorem dX1_find_76 : decode cX1_find 76 = .ok (.iload_n 1, 1) := by decide +kernel
theorem dX1_find_77 : decode cX1_find 77 = .ok (.iload_n 3, 1) := by decide +kernel
theorem dX1_find_78 : decode cX1_find 78 = .ok (.invokevirtual 68, 3) := by decide +kernel
theorem dX1_find_81 : decode cX1_find 81 = .ok (.aload_n 0, 1) := by decide +kernel
theorem dX1_find_82 : decode cX1_find 82 = .ok (.getfield 15, 3) := by decide +kernel
theorem dX1_find_85 : decode cX1_find 85 = .ok (.iload_n 2, 1) := by decide +kernel
theorem dX1_find_86 : decode cX1_find 86 = .ok (.aload_n 0, 1) := by decide +kernel
theorem dX1_find_87 : decode cX1_find 87 = .ok (.getfield 26, 3) := by decide +kernel
theorem dX1_find_90 : decode cX1_find 90 = .ok (.sipush 1000, 3) := by decide +kernel
theorem dX1_find_93 : decode cX1_find 93 = .ok (.if_icmp .le 7, 3) := by decide +kernel
theorem dX1_find_96 : decode cX1_find 96 = .ok (.iconst (-1), 1) := by decide +kernel
theorem dX1_find_97 : decode cX1_find 97 = .ok (.goto 7, 3) := by decide +kernel
theorem dX1_find_100 : decode cX1_find 100 = .ok (.aload_n 0, 1) := by decide +kernel
theorem dX1_find_101 : decode cX1_find 101 = .ok (.getfield 26, 3) := by decide +kernel
theorem dX1_find_104 : decode cX1_find 104 = .ok (.iastore, 1) := by decide +kernel
theorem dX1_find_105 : decode cX1_find 105 = .ok (.iload_n 3, 1) := by decide +kernel
theorem dX1_find_106 : decode cX1_find 106 = .ok (.istore_n 1, 1) := by decide +kernel
theorem dX1_find_107 : decode cX1_find 107 = .ok (.iinc 2 1, 3) := by decide +kernel
theorem dX1_find_110 : decode cX1_find 110 = .ok (.goto (-45), 3) := by decide +kernel
theorem dX1_find_113 : decode cX1_find 113 = .ok (.return_, 1) := by decide +kernel
theorem dX1_grow_0 : decode cX1_grow 0 = .ok (.iload_n 1, 1) := by decide +kernel
theorem dX1_grow_1 : decode cX1_grow 1 = .ok (.istore_n 3, 1) := by decide +kernel
theorem dX1_grow_2 : decode cX1_grow 2 = .ok (.iload_n 3, 1) := by decide +kernel
theorem dX1_grow_3 : decode cX1_grow 3 = .ok (.iload_n 2, 1) := by decide +kernel
theorem dX1_grow_4 : decode cX1_grow 4 = .ok (.if_icmp .ge 92, 3) := by decide +kernel
theorem dX1_grow_7 : decode cX1_grow 7 = .ok (.aload_n 0, 1) := by decide +kernel
theorem dX1_grow_8 : decode cX1_grow 8 = .ok (.getfield 26, 3) := by decide +kernel
theorem dX1_grow_11 : decode cX1_grow 11 = .ok (.sipush 1000, 3) := by decide +kernel
theorem dX1_grow_14 : decode cX1_grow 14 = .ok (.if_icmp .gt 82, 3) := by decide +kernel
theorem dX1_grow_17 : decode cX1_grow 17 = .ok (.aload_n 0, 1) := by decide +kernel
theorem dX1_grow_18 : decode cX1_grow 18 = .ok (.getfield 19, 3) := by decide +kernel
theorem dX1_grow_21 : decode cX1_grow 21 = .ok (.iload_n 3, 1) := by decide +kernel
theorem dX1_grow_22 : decode cX1_grow 22 = .ok (.bipush 6, 2) := by decide +kernel
theorem dX1_grow_24 : decode cX1_grow 24 = .ok (.imul, 1) := by decide +kernel
theorem dX1_grow_25 : decode cX1_grow 25 = .ok (.aload_n 0, 1) := by decide +kernel
theorem dX1_grow_26 : decode cX1_grow 26 = .ok (.getfield 29, 3) := by decide +kernel
theorem dX1_grow_29 : decode cX1_grow 29 = .ok (.iconst 0, 1) := by decide +kernel
theorem dX1_grow_30 : decode cX1_grow 30 = .ok (.bipush 6, 2) := by decide +kernel
theorem dX1_grow_32 : decode cX1_grow 32 = .ok (.invokestatic 72, 3) := by decide +kernel
theorem dX1_grow_35 : decode cX1_grow 35 = .ok (.iconst 0, 1) := by decide +kernel
theorem dX1_grow_36 : decode cX1_grow 36 = .ok (.istore 4, 2) := by decide +kernel
theorem dX1_grow_38 : decode cX1_grow 38 = .ok (.iload 4, 2) := by decide +kernel
theorem dX1_grow_40 : decode cX1_grow 40 = .ok (.aload_n 0, 1) := by decide +kernel
theorem dX1_grow_41 : decode cX1_grow 41 = .ok (.getfield 38, 3) := by decide +kernel
theorem dX1_grow_44 : decode cX1_grow 44 = .ok (.getfield 78, 3) := by decide +kernel
theorem dX1_grow_47 : decode cX1_grow 47 = .ok (.getfield 82, 3) := by decide +kernel
theorem dX1_grow_50 : decode cX1_grow 50 = .ok (.if_icmp .ge 40, 3) := by decide +kernel
theorem dX1_grow_53 : decode cX1_grow 53 = .ok (.aload_n 0, 1) := by decide +kernel
theorem dX1_grow_54 : decode cX1_grow 54 = .ok (.getfield 38, 3) := by decide +kernel
theorem dX1_grow_57 : decode cX1_grow 57 = .ok (.getfield 78, 3) := by decide +kernel
theorem dX1_grow_60 : decode cX1_grow 60 = .ok (.getfield 85, 3) := by decide +kernel
theorem dX1_grow_63 : decode cX1_grow 63 = .ok (.iload 4, 2) := by decide +kernel
theorem dX1_grow_65 : decode cX1_grow 65 = .ok (.iaload, 1) := by decide +kernel
theorem dX1_grow_66 : decode cX1_grow 66 = .ok (.iconst 1, 1) := by decide +kernel
theorem dX1_grow_67 : decode cX1_grow 67 = .ok (.if_icmp .ne 23, 3) := by decide +kernel
theorem dX1_grow_70 : decode cX1_grow 70 = .ok (.aload_n 0, 1) := by decide +kernel
theorem dX1_grow_71 : decode cX1_grow 71 = .ok (.iload 4, 2) := by decide +kernel
theorem dX1_grow_73 : decode cX1_grow 73 = .ok (.iconst 1, 1) := by decide +kernel
theorem dX1_grow_74 : decode cX1_grow 74 = .ok (.invokevirtual 88, 3) := by decide +kernel
theorem dX1_grow_77 : decode cX1_grow 77 = .ok (.aload_n 0, 1) := by decide +kernel
theorem dX1_grow_78 : decode cX1_grow 78 = .ok (.iload 4, 2) := by decide +kernel
theorem dX1_grow_80 : decode cX1_grow 80 = .ok (.iconst (-1), 1) := by decide +kernel
theorem dX1_grow_81 : decode cX1_grow 81 = .ok (.invokevirtual 88, 3) := by decide +kernel
theorem dX1_grow_84 : decode cX1_grow 84 = .ok (.iinc 4 1, 3) := by decide +kernel
theorem dX1_grow_87 : decode cX1_grow 87 = .ok (.goto (-49), 3) := by decide +kernel
theorem dX1_grow_90 : decode cX1_grow 90 = .ok (.iinc 3 1, 3) := by decide +kernel
theorem dX1_grow_93 : decode cX1_grow 93 = .ok (.goto (-91), 3) := by decide +kernel
theorem dX1_grow_96 : decode cX1_grow 96 = .ok (.return_, 1) := by decide +kernel
theorem dX1_growBy_0 : decode cX1_growBy 0 = .ok (.aload_n 0, 1) := by decide +kernel
theorem dX1_growBy_1 : decode cX1_growBy 1 = .ok (.getfield 32, 3) := by decide +kernel
theorem dX1_growBy_4 : decode cX1_growBy 4 = .ok (.iload_n 1, 1) := by decide +kernel
theorem dX1_growBy_5 : decode cX1_growBy 5 = .ok (.iload_n 2, 1) := by decide +kernel
theorem dX1_growBy_6 : decode cX1_growBy 6 = .ok (.i2l, 1) := by decide +kernel
theorem dX1_growBy_7 : decode cX1_growBy 7 = .ok (.invokestatic 91, 3) := by decide +kernel
theorem dX1_growBy_10 : decode cX1_growBy 10 = .ok (.aload_n 0, 1) := by decide +kernel
theorem dX1_growBy_11 : decode cX1_growBy 11 = .ok (.getfield 42, 3) := by decide +kernel
theorem dX1_growBy_14 : decode cX1_growBy 14 = .ok (.aload_n 0, 1) := by decide +kernel
theorem dX1_growBy_15 : decode cX1_growBy 15 = .ok (.getfield 35, 3) := by decide +kernel
theorem dX1_growBy_18 : decode cX1_growBy 18 = .ok (.aload_n 0, 1) := by decide +kernel
theorem dX1_growBy_19 : decode cX1_growBy 19 = .ok (.getfield 29, 3) := by decide +kernel
theorem dX1_growBy_22 : decode cX1_growBy 22 = .ok (.aload_n 0, 1) := by decide +kernel
theorem dX1_growBy_23 : decode cX1_growBy 23 = .ok (.getfield 32, 3) := by decide +kernel
theorem dX1_growBy_26 : decode cX1_growBy 26 = .ok (.invokevirtual 97, 3) := by decide +kernel
theorem dX1_growBy_29 : decode cX1_growBy 29 = .ok (.aload_n 0, 1) := by decide +kernel
theorem dX1_growBy_30 : decode cX1_growBy 30 = .ok (.invokevirtual 65, 3) := by decide +kernel
theorem dX1_growBy_33 : decode cX1_growBy 33 = .ok (.return_, 1) := by decide +kernel
theorem dX1_keepMade_0 : decode cX1_keepMade 0 = .ok (.aload_n 0, 1) := by decide +kernel
theorem dX1_keepMade_1 : decode cX1_keepMade 1 = .ok (.aload_n 0, 1) := by decide +kernel
theorem dX1_keepMade_2 : decode cX1_keepMade 2 = .ok (.getfield 35, 3) := by decide +kernel
theorem dX1_keepMade_5 : decode cX1_keepMade 5 = .ok (.invokevirtual 49, 3) := by decide +kernel
theorem dX1_keepMade_8 : decode cX1_keepMade 8 = .ok (.istore_n 1, 1) := by decide +kernel
theorem dX1_keepMade_9 : decode cX1_keepMade 9 = .ok (.aload_n 0, 1) := by decide +kernel
theorem dX1_keepMade_10 : decode cX1_keepMade 10 = .ok (.getfield 23, 3) := by decide +kernel
theorem dX1_keepMade_13 : decode cX1_keepMade 13 = .ok (.iload_n 1, 1) := by decide +kernel
theorem dX1_keepMade_14 : decode cX1_keepMade 14 = .ok (.iaload, 1) := by decide +kernel
theorem dX1_keepMade_15 : decode cX1_keepMade 15 = .ok (.ifCond .ne 54, 3) := by decide +kernel
theorem dX1_keepMade_18 : decode cX1_keepMade 18 = .ok (.aload_n 0, 1) := by decide +kernel
theorem dX1_keepMade_19 : decode cX1_keepMade 19 = .ok (.getfield 26, 3) := by decide +kernel
theorem dX1_keepMade_22 : decode cX1_keepMade 22 = .ok (.sipush 1000, 3) := by decide +kernel
theorem dX1_keepMade_25 : decode cX1_keepMade 25 = .ok (.if_icmp .gt 44, 3) := by decide +kernel
theorem dX1_keepMade_28 : decode cX1_keepMade 28 = .ok (.aload_n 0, 1) := by decide +kernel
theorem dX1_keepMade_29 : decode cX1_keepMade 29 = .ok (.getfield 35, 3) := by decide +kernel
theorem dX1_keepMade_32 : decode cX1_keepMade 32 = .ok (.iconst 0, 1) := by decide +kernel
theorem dX1_keepMade_33 : decode cX1_keepMade 33 = .ok (.aload_n 0, 1) := by decide +kernel
theorem dX1_keepMade_34 : decode cX1_keepMade 34 = .ok (.getfield 19, 3) := by decide +kernel
theorem dX1_keepMade_37 : decode cX1_keepMade 37 = .ok (.aload_n 0, 1) := by decide +kernel
theorem dX1_keepMade_38 : decode cX1_keepMade 38 = .ok (.getfield 26, 3) := by decide +kernel
theorem dX1_keepMade_41 : decode cX1_keepMade 41 = .ok (.bipush 6, 2) := by decide +kernel
theorem dX1_keepMade_43 : decode cX1_keepMade 43 = .ok (.imul, 1) := by decide +kernel
theorem dX1_keepMade_44 : decode cX1_keepMade 44 = .ok (.bipush 6, 2) := by decide +kernel
theorem dX1_keepMade_46 : decode cX1_keepMade 46 = .ok (.invokestatic 72, 3) := by decide +kernel
theorem dX1_keepMade_49 : decode cX1_keepMade 49 = .ok (.aload_n 0, 1) := by decide +kernel
theorem dX1_keepMade_50 : decode cX1_keepMade 50 = .ok (.dup, 1) := by decide +kernel
theorem dX1_keepMade_51 : decode cX1_keepMade 51 = .ok (.getfield 26, 3) := by decide +kernel
theorem dX1_keepMade_54 : decode cX1_keepMade 54 = .ok (.iconst 1, 1) := by decide +kernel
theorem dX1_keepMade_55 : decode cX1_keepMade 55 = .ok (.iadd, 1) := by decide +kernel
theorem dX1_keepMade_56 : decode cX1_keepMade 56 = .ok (.putfield 26, 3) := by decide +kernel
theorem dX1_keepMade_59 : decode cX1_keepMade 59 = .ok (.aload_n 0, 1) := by decide +kernel
theorem dX1_keepMade_60 : decode cX1_keepMade 60 = .ok (.getfield 23, 3) := by decide +kernel
theorem dX1_keepMade_63 : decode cX1_keepMade 63 = .ok (.iload_n 1, 1) := by decide +kernel
theorem dX1_keepMade_64 : decode cX1_keepMade 64 = .ok (.aload_n 0, 1) := by decide +kernel
theorem dX1_keepMade_65 : decode cX1_keepMade 65 = .ok (.getfield 26, 3) := by decide +kernel
theorem dX1_keepMade_68 : decode cX1_keepMade 68 = .ok (.iastore, 1) := by decide +kernel
theorem dX1_keepMade_69 : decode cX1_keepMade 69 = .ok (.return_, 1) := by decide +kernel
theorem dX1_slotOf_0 : decode cX1_slotOf 0 = .ok (.lconst 0, 1) := by decide +kernel
theorem dX1_slotOf_1 : decode cX1_slotOf 1 = .ok (.lstore_n 2, 1) := by decide +kernel
theorem dX1_slotOf_2 : decode cX1_slotOf 2 = .ok (.iconst 0, 1) := by decide +kernel
theorem dX1_slotOf_3 : decode cX1_slotOf 3 = .ok (.istore 4, 2) := by decide +kernel
theorem dX1_slotOf_5 : decode cX1_slotOf 5 = .ok (.iload 4, 2) := by decide +kernel
theorem dX1_slotOf_7 : decode cX1_slotOf 7 = .ok (.bipush 6, 2) := by decide +kernel
theorem dX1_slotOf_9 : decode cX1_slotOf 9 = .ok (.if_icmp .ge 20, 3) := by decide +kernel
theorem dX1_slotOf_12 : decode cX1_slotOf 12 = .ok (.lload_n 2, 1) := by decide +kernel
theorem dX1_slotOf_13 : decode cX1_slotOf 13 = .ok (.ldc2_w 101, 3) := by decide +kernel
theorem dX1_slotOf_16 : decode cX1_slotOf 16 = .ok (.lmul, 1) := by decide +kernel
theorem dX1_slotOf_17 : decode cX1_slotOf 17 = .ok (.aload_n 1, 1) := by decide +kernel
theorem dX1_slotOf_18 : decode cX1_slotOf 18 = .ok (.iload 4, 2) := by decide +kernel
theorem dX1_slotOf_20 : decode cX1_slotOf 20 = .ok (.laload, 1) := by decide +kernel
theorem dX1_slotOf_21 : decode cX1_slotOf 21 = .ok (.ladd, 1) := by decide +kernel
theorem dX1_slotOf_22 : decode cX1_slotOf 22 = .ok (.lstore_n 2, 1) := by decide +kernel
theorem dX1_slotOf_23 : decode cX1_slotOf 23 = .ok (.iinc 4 1, 3) := by decide +kernel
theorem dX1_slotOf_26 : decode cX1_slotOf 26 = .ok (.goto (-21), 3) := by decide +kernel
theorem dX1_slotOf_29 : decode cX1_slotOf 29 = .ok (.lload_n 2, 1) := by decide +kernel
theorem dX1_slotOf_30 : decode cX1_slotOf 30 = .ok (.l2i, 1) := by decide +kernel
theorem dX1_slotOf_31 : decode cX1_slotOf 31 = .ok (.sipush 4095, 3) := by decide +kernel
theorem dX1_slotOf_34 : decode cX1_slotOf 34 = .ok (.iand, 1) := by decide +kernel
theorem dX1_slotOf_35 : decode cX1_slotOf 35 = .ok (.istore 4, 2) := by decide +kernel
theorem dX1_slotOf_37 : decode cX1_slotOf 37 = .ok (.iconst 0, 1) := by decide +kernel
theorem dX1_slotOf_38 : decode cX1_slotOf 38 = .ok (.istore 5, 2) := by decide +kernel
theorem dX1_slotOf_40 : decode cX1_slotOf 40 = .ok (.iload 5, 2) := by decide +kernel
theorem dX1_slotOf_42 : decode cX1_slotOf 42 = .ok (.sipush 4096, 3) := by decide +kernel
theorem dX1_slotOf_45 : decode cX1_slotOf 45 = .ok (.if_icmp .ge 46, 3) := by decide +kernel
theorem dX1_slotOf_48 : decode cX1_slotOf 48 = .ok (.aload_n 0, 1) := by decide +kernel
theorem dX1_slotOf_49 : decode cX1_slotOf 49 = .ok (.getfield 23, 3) := by decide +kernel
theorem dX1_slotOf_52 : decode cX1_slotOf 52 = .ok (.iload 4, 2) := by decide +kernel
theorem dX1_slotOf_54 : decode cX1_slotOf 54 = .ok (.iaload, 1) := by decide +kernel
theorem dX1_slotOf_55 : decode cX1_slotOf 55 = .ok (.ifCond .eq 36, 3) := by decide +kernel
theorem dX1_slotOf_58 : decode cX1_slotOf 58 = .ok (.aload_n 0, 1) := by decide +kernel
theorem dX1_slotOf_59 : decode cX1_slotOf 59 = .ok (.aload_n 0, 1) := by decide +kernel
theorem dX1_slotOf_60 : decode cX1_slotOf 60 = .ok (.getfield 23, 3) := by decide +kernel
theorem dX1_slotOf_63 : decode cX1_slotOf 63 = .ok (.iload 4, 2) := by decide +kernel
theorem dX1_slotOf_65 : decode cX1_slotOf 65 = .ok (.iaload, 1) := by decide +kernel
theorem dX1_slotOf_66 : decode cX1_slotOf 66 = .ok (.iconst 1, 1) := by decide +kernel
theorem dX1_slotOf_67 : decode cX1_slotOf 67 = .ok (.isub, 1) := by decide +kernel
theorem dX1_slotOf_68 : decode cX1_slotOf 68 = .ok (.aload_n 1, 1) := by decide +kernel
theorem dX1_slotOf_69 : decode cX1_slotOf 69 = .ok (.invokevirtual 103, 3) := by decide +kernel
theorem dX1_slotOf_72 : decode cX1_slotOf 72 = .ok (.ifCond .ne 19, 3) := by decide +kernel
theorem dX1_slotOf_75 : decode cX1_slotOf 75 = .ok (.iload 4, 2) := by decide +kernel
theorem dX1_slotOf_77 : decode cX1_slotOf 77 = .ok (.iconst 1, 1) := by decide +kernel
theorem dX1_slotOf_78 : decode cX1_slotOf 78 = .ok (.iadd, 1) := by decide +kernel
theorem dX1_slotOf_79 : decode cX1_slotOf 79 = .ok (.sipush 4095, 3) := by decide +kernel
theorem dX1_slotOf_82 : decode cX1_slotOf 82 = .ok (.iand, 1) := by decide +kernel
theorem dX1_slotOf_83 : decode cX1_slotOf 83 = .ok (.istore 4, 2) := by decide +kernel
theorem dX1_slotOf_85 : decode cX1_slotOf 85 = .ok (.iinc 5 1, 3) := by decide +kernel
theorem dX1_slotOf_88 : decode cX1_slotOf 88 = .ok (.goto (-48), 3) := by decide +kernel
theorem dX1_slotOf_91 : decode cX1_slotOf 91 = .ok (.iload 4, 2) := by decide +kernel
theorem dX1_slotOf_93 : decode cX1_slotOf 93 = .ok (.ireturn, 1) := by decide +kernel
theorem dX1_isAt_0 : decode cX1_isAt 0 = .ok (.iconst 0, 1) := by decide +kernel
theorem dX1_isAt_1 : decode cX1_isAt 1 = .ok (.istore_n 3, 1) := by decide +kernel
theorem dX1_isAt_2 : decode cX1_isAt 2 = .ok (.iload_n 3, 1) := by decide +kernel
theorem dX1_isAt_3 : decode cX1_isAt 3 = .ok (.bipush 6, 2) := by decide +kernel
theorem dX1_isAt_5 : decode cX1_isAt 5 = .ok (.if_icmp .ge 29, 3) := by decide +kernel
theorem dX1_isAt_8 : decode cX1_isAt 8 = .ok (.aload_n 0, 1) := by decide +kernel
theorem dX1_isAt_9 : decode cX1_isAt 9 = .ok (.getfield 19, 3) := by decide +kernel
theorem dX1_isAt_12 : decode cX1_isAt 12 = .ok (.iload_n 1, 1) := by decide +kernel
theorem dX1_isAt_13 : decode cX1_isAt 13 = .ok (.bipush 6, 2) := by decide +kernel
theorem dX1_isAt_15 : decode cX1_isAt 15 = .ok (.imul, 1) := by decide +kernel
theorem dX1_isAt_16 : decode cX1_isAt 16 = .ok (.iload_n 3, 1) := by decide +kernel
theorem dX1_isAt_17 : decode cX1_isAt 17 = .ok (.iadd, 1) := by decide +kernel
theorem dX1_isAt_18 : decode cX1_isAt 18 = .ok (.laload, 1) := by decide +kernel
theorem dX1_isAt_19 : decode cX1_isAt 19 = .ok (.aload_n 2, 1) := by decide +kernel
theorem dX1_isAt_20 : decode cX1_isAt 20 = .ok (.iload_n 3, 1) := by decide +kernel
theorem dX1_isAt_21 : decode cX1_isAt 21 = .ok (.laload, 1) := by decide +kernel
theorem dX1_isAt_22 : decode cX1_isAt 22 = .ok (.lcmp, 1) := by decide +kernel
theorem dX1_isAt_23 : decode cX1_isAt 23 = .ok (.ifCond .eq 5, 3) := by decide +kernel
theorem dX1_isAt_26 : decode cX1_isAt 26 = .ok (.iconst 0, 1) := by decide +kernel
theorem dX1_isAt_27 : decode cX1_isAt 27 = .ok (.ireturn, 1) := by decide +kernel
theorem dX1_isAt_28 : decode cX1_isAt 28 = .ok (.iinc 3 1, 3) := by decide +kernel
theorem dX1_isAt_31 : decode cX1_isAt 31 = .ok (.goto (-29), 3) := by decide +kernel
theorem dX1_isAt_34 : decode cX1_isAt 34 = .ok (.iconst 1, 1) := by decide +kernel
theorem dX1_isAt_35 : decode cX1_isAt 35 = .ok (.ireturn, 1) := by decide +kernel
theorem dX2_init_0 : decode cX2_init 0 = .ok (.aload_n 0, 1) := by decide +kernel
theorem dX2_init_1 : decode cX2_init 1 = .ok (.invokespecial 5, 3) := by decide +kernel
theorem dX2_init_4 : decode cX2_init 4 = .ok (.aload_n 0, 1) := by decide +kernel
theorem dX2_init_5 : decode cX2_init 5 = .ok (.bipush 64, 2) := by decide +kernel
theorem dX2_init_7 : decode cX2_init 7 = .ok (.newarray .int, 2) := by decide +kernel
theorem dX2_init_9 : decode cX2_init 9 = .ok (.putfield 11, 3) := by decide +kernel
theorem dX2_init_12 : decode cX2_init 12 = .ok (.aload_n 0, 1) := by decide +kernel
theorem dX2_init_13 : decode cX2_init 13 = .ok (.iconst 0, 1) := by decide +kernel
theorem dX2_init_14 : decode cX2_init 14 = .ok (.putfield 15, 3) := by decide +kernel
theorem dX2_init_17 : decode cX2_init 17 = .ok (.aload_n 0, 1) := by decide +kernel
theorem dX2_init_18 : decode cX2_init 18 = .ok (.sipush 12076, 3) := by decide +kernel
theorem dX2_init_21 : decode cX2_init 21 = .ok (.newarray .int, 2) := by decide +kernel
theorem dX2_init_23 : decode cX2_init 23 = .ok (.putfield 19, 3) := by decide +kernel
theorem dX2_init_26 : decode cX2_init 26 = .ok (.aload_n 0, 1) := by decide +kernel
theorem dX2_init_27 : decode cX2_init 27 = .ok (.iconst 0, 1) := by decide +kernel
theorem dX2_init_28 : decode cX2_init 28 = .ok (.putfield 22, 3) := by decide +kernel
theorem dX2_init_31 : decode cX2_init 31 = .ok (.aload_n 0, 1) := by decide +kernel
theorem dX2_init_32 : decode cX2_init 32 = .ok (.sipush 12076, 3) := by decide +kernel
theorem dX2_init_35 : decode cX2_init 35 = .ok (.newarray .int, 2) := by decide +kernel
theorem dX2_init_37 : decode cX2_init 37 = .ok (.putfield 25, 3) := by decide +kernel
theorem dX2_init_40 : decode cX2_init 40 = .ok (.aload_n 0, 1) := by decide +kernel
theorem dX2_init_41 : decode cX2_init 41 = .ok (.iconst 0, 1) := by decide +kernel
theorem dX2_init_42 : decode cX2_init 42 = .ok (.putfield 28, 3) := by decide +kernel
theorem dX2_init_45 : decode cX2_init 45 = .ok (.aload_n 0, 1) := by decide +kernel
theorem dX2_init_46 : decode cX2_init 46 = .ok (.bipush 6, 2) := by decide +kernel
theorem dX2_init_48 : decode cX2_init 48 = .ok (.newarray .int, 2) := by decide +kernel
theorem dX2_init_50 : decode cX2_init 50 = .ok (.putfield 31, 3) := by decide +kernel
theorem dX2_init_53 : decode cX2_init 53 = .ok (.return_, 1) := by decide +kernel
theorem dX2_begin_0 : decode cX2_begin 0 = .ok (.aload_n 0, 1) := by decide +kernel
theorem dX2_begin_1 : decode cX2_begin 1 = .ok (.iconst 0, 1) := by decide +kernel
theorem dX2_begin_2 : decode cX2_begin 2 = .ok (.putfield 15, 3) := by decide +kernel
theorem dX2_begin_5 : decode cX2_begin 5 = .ok (.return_, 1) := by decide +kernel
theorem dX2_add_0 : decode cX2_add 0 = .ok (.aload_n 0, 1) := by decide +kernel
theorem dX2_add_1 : decode cX2_add 1 = .ok (.getfield 15, 3) := by decide +kernel
theorem dX2_add_4 : decode cX2_add 4 = .ok (.bipush 64, 2) := by decide +kernel
theorem dX2_add_6 : decode cX2_add 6 = .ok (.if_icmp .ge 33, 3) := by decide +kernel
theorem dX2_add_9 : decode cX2_add 9 = .ok (.iload_n 1, 1) := by decide +kernel
theorem dX2_add_10 : decode cX2_add 10 = .ok (.ifCond .lt 29, 3) := by decide +kernel
theorem dX2_add_13 : decode cX2_add 13 = .ok (.iload_n 1, 1) := by decide +kernel
theorem dX2_add_14 : decode cX2_add 14 = .ok (.bipush 6, 2) := by decide +kernel
theorem dX2_add_16 : decode cX2_add 16 = .ok (.if_icmp .ge 23, 3) := by decide +kernel
theorem dX2_add_19 : decode cX2_add 19 = .ok (.aload_n 0, 1) := by decide +kernel
theorem dX2_add_20 : decode cX2_add 20 = .ok (.getfield 11, 3) := by decide +kernel
theorem dX2_add_23 : decode cX2_add 23 = .ok (.aload_n 0, 1) := by decide +kernel
theorem dX2_add_24 : decode cX2_add 24 = .ok (.getfield 15, 3) := by decide +kernel
theorem dX2_add_27 : decode cX2_add 27 = .ok (.iload_n 1, 1) := by decide +kernel
theorem dX2_add_28 : decode cX2_add 28 = .ok (.iastore, 1) := by decide +kernel
theorem dX2_add_29 : decode cX2_add 29 = .ok (.aload_n 0, 1) := by decide +kernel
theorem dX2_add_30 : decode cX2_add 30 = .ok (.dup, 1) := by decide +kernel
theorem dX2_add_31 : decode cX2_add 31 = .ok (.getfield 15, 3) := by decide +kernel
theorem dX2_add_34 : decode cX2_add 34 = .ok (.iconst 1, 1) := by decide +kernel
theorem dX2_add_35 : decode cX2_add 35 = .ok (.iadd, 1) := by decide +kernel
theorem dX2_add_36 : decode cX2_add 36 = .ok (.putfield 15, 3) := by decide +kernel
theorem dX2_add_39 : decode cX2_add 39 = .ok (.return_, 1) := by decide +kernel
theorem dX2_addTails_0 : decode cX2_addTails 0 = .ok (.iload_n 2, 1) := by decide +kernel
theorem dX2_addTails_1 : decode cX2_addTails 1 = .ok (.iconst 1, 1) := by decide +kernel
theorem dX2_addTails_2 : decode cX2_addTails 2 = .ok (.iadd, 1) := by decide +kernel
theorem dX2_addTails_3 : decode cX2_addTails 3 = .ok (.istore 4, 2) := by decide +kernel
theorem dX2_addTails_5 : decode cX2_addTails 5 = .ok (.iload 4, 2) := by decide +kernel
theorem dX2_addTails_7 : decode cX2_addTails 7 = .ok (.aload_n 1, 1) := by decide +kernel
theorem dX2_addTails_8 : decode cX2_addTails 8 = .ok (.getfield 34, 3) := by decide +kernel
theorem dX2_addTails_11 : decode cX2_addTails 11 = .ok (.if_icmp .ge 36, 3) := by decide +kernel
theorem dX2_addTails_14 : decode cX2_addTails 14 = .ok (.aload_n 1, 1) := by decide +kernel
theorem dX2_addTails_15 : decode cX2_addTails 15 = .ok (.iload_n 2, 1) := by decide +kernel
theorem dX2_addTails_16 : decode cX2_addTails 16 = .ok (.iload_n 3, 1) := by decide +kernel
theorem dX2_addTails_17 : decode cX2_addTails 17 = .ok (.iload 4, 2) := by decide +kernel
theorem dX2_addTails_19 : decode cX2_addTails 19 = .ok (.invokevirtual 39, 3) := by decide +kernel
theorem dX2_addTails_22 : decode cX2_addTails 22 = .ok (.istore 5, 2) := by decide +kernel
theorem dX2_addTails_24 : decode cX2_addTails 24 = .ok (.iload 5, 2) := by decide +kernel
theorem dX2_addTails_26 : decode cX2_addTails 26 = .ok (.ifCond .le 15, 3) := by decide +kernel
theorem dX2_addTails_29 : decode cX2_addTails 29 = .ok (.aload_n 0, 1) := by decide +kernel
theorem dX2_addTails_30 : decode cX2_addTails 30 = .ok (.iload 4, 2) := by decide +kernel
theorem dX2_addTails_32 : decode cX2_addTails 32 = .ok (.invokevirtual 43, 3) := by decide +kernel
theorem dX2_addTails_35 : decode cX2_addTails 35 = .ok (.iinc 5 (-1), 3) := by decide +kernel
theorem dX2_addTails_38 : decode cX2_addTails 38 = .ok (.goto (-14), 3) := by decide +kernel
theorem dX2_addTails_41 : decode cX2_addTails 41 = .ok (.iinc 4 1, 3) := by decide +kernel
theorem dX2_addTails_44 : decode cX2_addTails 44 = .ok (.goto (-39), 3) := by decide +kernel
theorem dX2_addTails_47 : decode cX2_addTails 47 = .ok (.return_, 1) := by decide +kernel
theorem dX2_run_0 : decode cX2_run 0 = .ok (.aload_n 0, 1) := by decide +kernel
theorem dX2_run_1 : decode cX2_run 1 = .ok (.iconst 0, 1) := by decide +kernel
theorem dX2_run_2 : decode cX2_run 2 = .ok (.putfield 22, 3) := by decide +kernel
theorem dX2_run_5 : decode cX2_run 5 = .ok (.aload_n 0, 1) := by decide +kernel
theorem dX2_run_6 : decode cX2_run 6 = .ok (.iconst 0, 1) := by decide +kernel
theorem dX2_run_7 : decode cX2_run 7 = .ok (.putfield 28, 3) := by decide +kernel
theorem dX2_run_10 : decode cX2_run 10 = .ok (.aload_n 0, 1) := by decide +kernel
theorem dX2_run_11 : decode cX2_run 11 = .ok (.getfield 15, 3) := by decide +kernel
theorem dX2_run_14 : decode cX2_run 14 = .ok (.iconst 1, 1) := by decide +kernel
theorem dX2_run_15 : decode cX2_run 15 = .ok (.isub, 1) := by decide +kernel
theorem dX2_run_16 : decode cX2_run 16 = .ok (.istore_n 3, 1) := by decide +kernel
theorem dX2_run_17 : decode cX2_run 17 = .ok (.iload_n 3, 1) := by decide +kernel
theorem dX2_run_18 : decode cX2_run 18 = .ok (.ifCond .lt 19, 3) := by decide +kernel
theorem dX2_run_21 : decode cX2_run 21 = .ok (.aload_n 0, 1) := by decide +kernel
theorem dX2_run_22 : decode cX2_run 22 = .ok (.aload_n 0, 1) := by decide +kernel
theorem dX2_run_23 : decode cX2_run 23 = .ok (.getfield 11, 3) := by decide +kernel
theorem dX2_run_26 : decode cX2_run 26 = .ok (.iload_n 3, 1) := by decide +kernel
theorem dX2_run_27 : decode cX2_run 27 = .ok (.iaload, 1) := by decide +kernel
theorem dX2_run_28 : decode cX2_run 28 = .ok (.invokevirtual 47, 3) := by decide +kernel
theorem dX2_run_31 : decode cX2_run 31 = .ok (.iinc 3 (-1), 3) := by decide +kernel
theorem dX2_run_34 : decode cX2_run 34 = .ok (.goto (-17), 3) := by decide +kernel
theorem dX2_run_37 : decode cX2_run 37 = .ok (.iconst 0, 1) := by decide +kernel
theorem dX2_run_38 : decode cX2_run 38 = .ok (.istore_n 3, 1) := by decide +kernel
theorem dX2_run_39 : decode cX2_run 39 = .ok (.iconst 0, 1) := by decide +kernel
theorem dX2_run_40 : decode cX2_run 40 = .ok (.istore 4, 2) := by decide +kernel
theorem dX2_run_42 : decode cX2_run 42 = .ok (.iload 4, 2) := by decide +kernel
theorem dX2_run_44 : decode cX2_run 44 = .ok (.ldc 50, 2) := by decide +kernel
theorem dX2_run_46 : decode cX2_run 46 = .ok (.if_icmp .ge 89, 3) := by decide +kernel
theorem dX2_run_49 : decode cX2_run 49 = .ok (.aload_n 0, 1) := by decide +kernel
theorem dX2_run_50 : decode cX2_run 50 = .ok (.getfield 28, 3) := by decide +kernel
theorem dX2_run_53 : decode cX2_run 53 = .ok (.ifCond .le 82, 3) := by decide +kernel
theorem dX2_run_56 : decode cX2_run 56 = .ok (.aload_n 0, 1) := by decide +kernel
theorem dX2_run_57 : decode cX2_run 57 = .ok (.getfield 25, 3) := by decide +kernel
theorem dX2_run_60 : decode cX2_run 60 = .ok (.aload_n 0, 1) := by decide +kernel
theorem dX2_run_61 : decode cX2_run 61 = .ok (.getfield 28, 3) := by decide +kernel
theorem dX2_run_64 : decode cX2_run 64 = .ok (.iconst 1, 1) := by decide +kernel
theorem dX2_run_65 : decode cX2_run 65 = .ok (.isub, 1) := by decide +kernel
theorem dX2_run_66 : decode cX2_run 66 = .ok (.iaload, 1) := by decide +kernel
theorem dX2_run_67 : decode cX2_run 67 = .ok (.istore 5, 2) := by decide +kernel
theorem dX2_run_69 : decode cX2_run 69 = .ok (.aload_n 0, 1) := by decide +kernel
theorem dX2_run_70 : decode cX2_run 70 = .ok (.getfield 22, 3) := by decide +kernel
theorem dX2_run_73 : decode cX2_run 73 = .ok (.ifCond .eq 19, 3) := by decide +kernel
theorem dX2_run_76 : decode cX2_run 76 = .ok (.aload_n 0, 1) := by decide +kernel
theorem dX2_run_77 : decode cX2_run 77 = .ok (.getfield 19, 3) := by decide +kernel
theorem dX2_run_80 : decode cX2_run 80 = .ok (.aload_n 0, 1) := by decide +kernel
theorem dX2_run_81 : decode cX2_run 81 = .ok (.getfield 22, 3) := by decide +kernel
theorem dX2_run_84 : decode cX2_run 84 = .ok (.iconst 1, 1) := by decide +kernel
theorem dX2_run_85 : decode cX2_run 85 = .ok (.isub, 1) := by decide +kernel
theorem dX2_run_86 : decode cX2_run 86 = .ok (.iaload, 1) := by decide +kernel
theorem dX2_run_87 : decode cX2_run 87 = .ok (.iload 5, 2) := by decide +kernel
theorem dX2_run_89 : decode cX2_run 89 = .ok (.if_icmp .gt 12, 3) := by decide +kernel
theorem dX2_run_92 : decode cX2_run 92 = .ok (.aload_n 0, 1) := by decide +kernel
theorem dX2_run_93 : decode cX2_run 93 = .ok (.iload 5, 2) := by decide +kernel
theorem dX2_run_95 : decode cX2_run 95 = .ok (.invokevirtual 51, 3) := by decide +kernel
theorem dX2_run_98 : decode cX2_run 98 = .ok (.goto 31, 3) := by decide +kernel
theorem dX2_run_101 : decode cX2_run 101 = .ok (.iload_n 3, 1) := by decide +kernel
theorem dX2_run_102 : decode cX2_run 102 = .ok (.iload_n 2, 1) := by decide +kernel
theorem dX2_run_103 : decode cX2_run 103 = .ok (.if_icmp .ne 5, 3) := by decide +kernel
theorem dX2_run_106 : decode cX2_run 106 = .ok (.iconst (-1), 1) := by decide +kernel
theorem dX2_run_107 : decode cX2_run 107 = .ok (.ireturn, 1) := by decide +kernel
theorem dX2_run_108 : decode cX2_run 108 = .ok (.iinc 3 1, 3) := by decide +kernel
theorem dX2_run_111 : decode cX2_run 111 = .ok (.aload_n 0, 1) := by decide +kernel
theorem dX2_run_112 : decode cX2_run 112 = .ok (.aload_n 1, 1) := by decide +kernel
theorem dX2_run_113 : decode cX2_run 113 = .ok (.aload_n 0, 1) := by decide +kernel
theorem dX2_run_114 : decode cX2_run 114 = .ok (.getfield 19, 3) := by decide +kernel
theorem dX2_run_117 : decode cX2_run 117 = .ok (.aload_n 0, 1) := by decide +kernel
theorem dX2_run_118 : decode cX2_run 118 = .ok (.getfield 22, 3) := by decide +kernel
theorem dX2_run_121 : decode cX2_run 121 = .ok (.iconst 1, 1) := by decide +kernel
theorem dX2_run_122 : decode cX2_run 122 = .ok (.isub, 1) := by decide +kernel
theorem dX2_run_123 : decode cX2_run 123 = .ok (.iaload, 1) := by decide +kernel
theorem dX2_run_124 : decode cX2_run 124 = .ok (.iload 5, 2) := by decide +kernel
theorem dX2_run_126 : decode cX2_run 126 = .ok (.invokevirtual 54, 3) := by decide +kernel
theorem dX2_run_129 : decode cX2_run 129 = .ok (.iinc 4 1, 3) := by decide +kernel
theorem dX2_run_132 : decode cX2_run 132 = .ok (.goto (-90), 3) := by decide +kernel
theorem dX2_run_135 : decode cX2_run 135 = .ok (.aload_n 0, 1) := by decide +kernel
theorem dX2_run_136 : decode cX2_run 136 = .ok (.invokevirtual 58, 3) := by decide +kernel
theorem dX2_run_139 : decode cX2_run 139 = .ok (.iload_n 3, 1) := by decide +kernel
theorem dX2_run_140 : decode cX2_run 140 = .ok (.ireturn, 1) := by decide +kernel
theorem dX2_putAhead_0 : decode cX2_putAhead 0 = .ok (.aload_n 0, 1) := by decide +kernel
theorem dX2_putAhead_1 : decode cX2_putAhead 1 = .ok (.getfield 28, 3) := by decide +kernel
theorem dX2_putAhead_4 : decode cX2_putAhead 4 = .ok (.sipush 12076, 3) := by decide +kernel
theorem dX2_putAhead_7 : decode cX2_putAhead 7 = .ok (.if_icmp .ge 23, 3) := by decide +kernel
theorem dX2_putAhead_10 : decode cX2_putAhead 10 = .ok (.aload_n 0, 1) := by decide +kernel
theorem dX2_putAhead_11 : decode cX2_putAhead 11 = .ok (.getfield 25, 3) := by decide +kernel
theorem dX2_putAhead_14 : decode cX2_putAhead 14 = .ok (.aload_n 0, 1) := by decide +kernel
theorem dX2_putAhead_15 : decode cX2_putAhead 15 = .ok (.getfield 28, 3) := by decide +kernel
theorem dX2_putAhead_18 : decode cX2_putAhead 18 = .ok (.iload_n 1, 1) := by decide +kernel
theorem dX2_putAhead_19 : decode cX2_putAhead 19 = .ok (.iastore, 1) := by decide +kernel
theorem dX2_putAhead_20 : decode cX2_putAhead 20 = .ok (.aload_n 0, 1) := by decide +kernel
theorem dX2_putAhead_21 : decode cX2_putAhead 21 = .ok (.dup, 1) := by decide +kernel
theorem dX2_putAhead_22 : decode cX2_putAhead 22 = .ok (.getfield 28, 3) := by decide +kernel
theorem dX2_putAhead_25 : decode cX2_putAhead 25 = .ok (.iconst 1, 1) := by decide +kernel
theorem dX2_putAhead_26 : decode cX2_putAhead 26 = .ok (.iadd, 1) := by decide +kernel
theorem dX2_putAhead_27 : decode cX2_putAhead 27 = .ok (.putfield 28, 3) := by decide +kernel
theorem dX2_putAhead_30 : decode cX2_putAhead 30 = .ok (.return_, 1) := by decide +kernel
theorem dX2_moveOn_0 : decode cX2_moveOn 0 = .ok (.aload_n 0, 1) := by decide +kernel
theorem dX2_moveOn_1 : decode cX2_moveOn 1 = .ok (.dup, 1) := by decide +kernel
theorem dX2_moveOn_2 : decode cX2_moveOn 2 = .ok (.getfield 28, 3) := by decide +kernel
theorem dX2_moveOn_5 : decode cX2_moveOn 5 = .ok (.iconst 1, 1) := by decide +kernel
theorem dX2_moveOn_6 : decode cX2_moveOn 6 = .ok (.isub, 1) := by decide +kernel
theorem dX2_moveOn_7 : decode cX2_moveOn 7 = .ok (.putfield 28, 3) := by decide +kernel
theorem dX2_moveOn_10 : decode cX2_moveOn 10 = .ok (.aload_n 0, 1) := by decide +kernel
theorem dX2_moveOn_11 : decode cX2_moveOn 11 = .ok (.getfield 22, 3) := by decide +kernel
theorem dX2_moveOn_14 : decode cX2_moveOn 14 = .ok (.sipush 12076, 3) := by decide +kernel
theorem dX2_moveOn_17 : decode cX2_moveOn 17 = .ok (.if_icmp .ge 23, 3) := by decide +kernel
theorem dX2_moveOn_20 : decode cX2_moveOn 20 = .ok (.aload_n 0, 1) := by decide +kernel
theorem dX2_moveOn_21 : decode cX2_moveOn 21 = .ok (.getfield 19, 3) := by decide +kernel
theorem dX2_moveOn_24 : decode cX2_moveOn 24 = .ok (.aload_n 0, 1) := by decide +kernel
theorem dX2_moveOn_25 : decode cX2_moveOn 25 = .ok (.getfield 22, 3) := by decide +kernel
theorem dX2_moveOn_28 : decode cX2_moveOn 28 = .ok (.iload_n 1, 1) := by decide +kernel
theorem dX2_moveOn_29 : decode cX2_moveOn 29 = .ok (.iastore, 1) := by decide +kernel
theorem dX2_moveOn_30 : decode cX2_moveOn 30 = .ok (.aload_n 0, 1) := by decide +kernel
theorem dX2_moveOn_31 : decode cX2_moveOn 31 = .ok (.dup, 1) := by decide +kernel
theorem dX2_moveOn_32 : decode cX2_moveOn 32 = .ok (.getfield 22, 3) := by decide +kernel
theorem dX2_moveOn_35 : decode cX2_moveOn 35 = .ok (.iconst 1, 1) := by decide +kernel
theorem dX2_moveOn_36 : decode cX2_moveOn 36 = .ok (.iadd, 1) := by decide +kernel
theorem dX2_moveOn_37 : decode cX2_moveOn 37 = .ok (.putfield 22, 3) := by decide +kernel
theorem dX2_moveOn_40 : decode cX2_moveOn 40 = .ok (.return_, 1) := by decide +kernel
theorem dX2_exchange_0 : decode cX2_exchange 0 = .ok (.aload_n 0, 1) := by decide +kernel
theorem dX2_exchange_1 : decode cX2_exchange 1 = .ok (.dup, 1) := by decide +kernel
theorem dX2_exchange_2 : decode cX2_exchange 2 = .ok (.getfield 22, 3) := by decide +kernel
theorem dX2_exchange_5 : decode cX2_exchange 5 = .ok (.iconst 1, 1) := by decide +kernel
theorem dX2_exchange_6 : decode cX2_exchange 6 = .ok (.isub, 1) := by decide +kernel
theorem dX2_exchange_7 : decode cX2_exchange 7 = .ok (.putfield 22, 3) := by decide +kernel
theorem dX2_exchange_10 : decode cX2_exchange 10 = .ok (.aload_n 0, 1) := by decide +kernel
theorem dX2_exchange_11 : decode cX2_exchange 11 = .ok (.dup, 1) := by decide +kernel
theorem dX2_exchange_12 : decode cX2_exchange 12 = .ok (.getfield 28, 3) := by decide +kernel
theorem dX2_exchange_15 : decode cX2_exchange 15 = .ok (.iconst 1, 1) := by decide +kernel
theorem dX2_exchange_16 : decode cX2_exchange 16 = .ok (.isub, 1) := by decide +kernel
theorem dX2_exchange_17 : decode cX2_exchange 17 = .ok (.putfield 28, 3) := by decide +kernel
theorem dX2_exchange_20 : decode cX2_exchange 20 = .ok (.aload_n 1, 1) := by decide +kernel
theorem dX2_exchange_21 : decode cX2_exchange 21 = .ok (.getfield 34, 3) := by decide +kernel
theorem dX2_exchange_24 : decode cX2_exchange 24 = .ok (.iconst 1, 1) := by decide +kernel
theorem dX2_exchange_25 : decode cX2_exchange 25 = .ok (.isub, 1) := by decide +kernel
theorem dX2_exchange_26 : decode cX2_exchange 26 = .ok (.istore 4, 2) := by decide +kernel
theorem dX2_exchange_28 : decode cX2_exchange 28 = .ok (.iload 4, 2) := by decide +kernel
theorem dX2_exchange_30 : decode cX2_exchange 30 = .ok (.iload_n 2, 1) := by decide +kernel
theorem dX2_exchange_31 : decode cX2_exchange 31 = .ok (.if_icmp .le 36, 3) := by decide +kernel
theorem dX2_exchange_34 : decode cX2_exchange 34 = .ok (.aload_n 1, 1) := by decide +kernel
theorem dX2_exchange_35 : decode cX2_exchange 35 = .ok (.iload_n 2, 1) := by decide +kernel
theorem dX2_exchange_36 : decode cX2_exchange 36 = .ok (.iload_n 3, 1) := by decide +kernel
theorem dX2_exchange_37 : decode cX2_exchange 37 = .ok (.iload 4, 2) := by decide +kernel
theorem dX2_exchange_39 : decode cX2_exchange 39 = .ok (.invokevirtual 39, 3) := by decide +kernel
theorem dX2_exchange_42 : decode cX2_exchange 42 = .ok (.istore 5, 2) := by decide +kernel
theorem dX2_exchange_44 : decode cX2_exchange 44 = .ok (.iload 5, 2) := by decide +kernel
theorem dX2_exchange_46 : decode cX2_exchange 46 = .ok (.ifCond .le 15, 3) := by decide +kernel
theorem dX2_exchange_49 : decode cX2_exchange 49 = .ok (.aload_n 0, 1) := by decide +kernel
theorem dX2_exchange_50 : decode cX2_exchange 50 = .ok (.iload 4, 2) := by decide +kernel
theorem dX2_exchange_52 : decode cX2_exchange 52 = .ok (.invokevirtual 47, 3) := by decide +kernel
theorem dX2_exchange_55 : decode cX2_exchange 55 = .ok (.iinc 5 (-1), 3) := by decide +kernel
theorem dX2_exchange_58 : decode cX2_exchange 58 = .ok (.goto (-14), 3) := by decide +kernel
theorem dX2_exchange_61 : decode cX2_exchange 61 = .ok (.iinc 4 (-1), 3) := by decide +kernel
theorem dX2_exchange_64 : decode cX2_exchange 64 = .ok (.goto (-36), 3) := by decide +kernel
theorem dX2_exchange_67 : decode cX2_exchange 67 = .ok (.aload_n 0, 1) := by decide +kernel
theorem dX2_exchange_68 : decode cX2_exchange 68 = .ok (.iload_n 2, 1) := by decide +kernel
theorem dX2_exchange_69 : decode cX2_exchange 69 = .ok (.invokevirtual 47, 3) := by decide +kernel
theorem dX2_exchange_72 : decode cX2_exchange 72 = .ok (.aload_n 0, 1) := by decide +kernel
theorem dX2_exchange_73 : decode cX2_exchange 73 = .ok (.iload_n 3, 1) := by decide +kernel
theorem dX2_exchange_74 : decode cX2_exchange 74 = .ok (.invokevirtual 47, 3) := by decide +kernel
theorem dX2_exchange_77 : decode cX2_exchange 77 = .ok (.return_, 1) := by decide +kernel
theorem dX2_countLetters_0 : decode cX2_countLetters 0 = .ok (.aload_n 0, 1) := by decide +kernel
theorem dX2_countLetters_1 : decode cX2_countLetters 1 = .ok (.getfield 31, 3) := by decide +kernel
theorem dX2_countLetters_4 : decode cX2_countLetters 4 = .ok (.iconst 0, 1) := by decide +kernel
theorem dX2_countLetters_5 : decode cX2_countLetters 5 = .ok (.invokestatic 61, 3) := by decide +kernel
theorem dX2_countLetters_8 : decode cX2_countLetters 8 = .ok (.iconst 0, 1) := by decide +kernel
theorem dX2_countLetters_9 : decode cX2_countLetters 9 = .ok (.istore_n 1, 1) := by decide +kernel
theorem dX2_countLetters_10 : decode cX2_countLetters 10 = .ok (.iload_n 1, 1) := by decide +kernel
theorem dX2_countLetters_11 : decode cX2_countLetters 11 = .ok (.aload_n 0, 1) := by decide +kernel
theorem dX2_countLetters_12 : decode cX2_countLetters 12 = .ok (.getfield 22, 3) := by decide +kernel
theorem dX2_countLetters_15 : decode cX2_countLetters 15 = .ok (.if_icmp .ge 24, 3) := by decide +kernel
theorem dX2_countLetters_18 : decode cX2_countLetters 18 = .ok (.aload_n 0, 1) := by decide +kernel
theorem dX2_countLetters_19 : decode cX2_countLetters 19 = .ok (.getfield 31, 3) := by decide +kernel
theorem dX2_countLetters_22 : decode cX2_countLetters 22 = .ok (.aload_n 0, 1) := by decide +kernel
theorem dX2_countLetters_23 : decode cX2_countLetters 23 = .ok (.getfield 19, 3) := by decide +kernel
theorem dX2_countLetters_26 : decode cX2_countLetters 26 = .ok (.iload_n 1, 1) := by decide +kernel
theorem dX2_countLetters_27 : decode cX2_countLetters 27 = .ok (.iaload, 1) := by decide +kernel
theorem dX2_countLetters_28 : decode cX2_countLetters 28 = .ok (.dup2, 1) := by decide +kernel
theorem dX2_countLetters_29 : decode cX2_countLetters 29 = .ok (.iaload, 1) := by decide +kernel
theorem dX2_countLetters_30 : decode cX2_countLetters 30 = .ok (.iconst 1, 1) := by decide +kernel
theorem dX2_countLetters_31 : decode cX2_countLetters 31 = .ok (.iadd, 1) := by decide +kernel
theorem dX2_countLetters_32 : decode cX2_countLetters 32 = .ok (.iastore, 1) := by decide +kernel
theorem dX2_countLetters_33 : decode cX2_countLetters 33 = .ok (.iinc 1 1, 3) := by decide +kernel
theorem dX2_countLetters_36 : decode cX2_countLetters 36 = .ok (.goto (-26), 3) := by decide +kernel
theorem dX2_countLetters_39 : decode cX2_countLetters 39 = .ok (.return_, 1) := by decide +kernel
theorem dX3_init_0 : decode cX3_init 0 = .ok (.aload_n 0, 1) := by decide +kernel
theorem dX3_init_1 : decode cX3_init 1 = .ok (.invokespecial 3, 3) := by decide +kernel
theorem dX3_init_4 : decode cX3_init 4 = .ok (.aload_n 0, 1) := by decide +kernel
theorem dX3_init_5 : decode cX3_init 5 = .ok (.iconst 0, 1) := by decide +kernel
theorem dX3_init_6 : decode cX3_init 6 = .ok (.putfield 9, 3) := by decide +kernel
theorem dX3_init_9 : decode cX3_init 9 = .ok (.aload_n 0, 1) := by decide +kernel
theorem dX3_init_10 : decode cX3_init 10 = .ok (.bipush 6, 2) := by decide +kernel
theorem dX3_init_12 : decode cX3_init 12 = .ok (.bipush 6, 2) := by decide +kernel
theorem dX3_init_14 : decode cX3_init 14 = .ok (.multianewarray 15 2, 4) := by decide +kernel
theorem dX3_init_18 : decode cX3_init 18 = .ok (.putfield 17, 3) := by decide +kernel
theorem dX3_init_21 : decode cX3_init 21 = .ok (.aload_n 0, 1) := by decide +kernel
theorem dX3_init_22 : decode cX3_init 22 = .ok (.bipush 6, 2) := by decide +kernel
theorem dX3_init_24 : decode cX3_init 24 = .ok (.newarray .long, 2) := by decide +kernel
theorem dX3_init_26 : decode cX3_init 26 = .ok (.putfield 20, 3) := by decide +kernel
theorem dX3_init_29 : decode cX3_init 29 = .ok (.return_, 1) := by decide +kernel
theorem dX3_clear_0 : decode cX3_clear 0 = .ok (.aload_n 0, 1) := by decide +kernel
theorem dX3_clear_1 : decode cX3_clear 1 = .ok (.iconst 0, 1) := by decide +kernel
theorem dX3_clear_2 : decode cX3_clear 2 = .ok (.iload_n 1, 1) := by decide +kernel
theorem dX3_clear_3 : decode cX3_clear 3 = .ok (.bipush 6, 2) := by decide +kernel
theorem dX3_clear_5 : decode cX3_clear 5 = .ok (.invokestatic 24, 3) := by decide +kernel
theorem dX3_clear_8 : decode cX3_clear 8 = .ok (.invokestatic 30, 3) := by decide +kernel
theorem dX3_clear_11 : decode cX3_clear 11 = .ok (.putfield 9, 3) := by decide +kernel
theorem dX3_clear_14 : decode cX3_clear 14 = .ok (.iconst 0, 1) := by decide +kernel
theorem dX3_clear_15 : decode cX3_clear 15 = .ok (.istore_n 2, 1) := by decide +kernel
theorem dX3_clear_16 : decode cX3_clear 16 = .ok (.iload_n 2, 1) := by decide +kernel
theorem dX3_clear_17 : decode cX3_clear 17 = .ok (.bipush 6, 2) := by decide +kernel
theorem dX3_clear_19 : decode cX3_clear 19 = .ok (.if_icmp .ge 19, 3) := by decide +kernel
theorem dX3_clear_22 : decode cX3_clear 22 = .ok (.aload_n 0, 1) := by decide +kernel
theorem dX3_clear_23 : decode cX3_clear 23 = .ok (.getfield 17, 3) := by decide +kernel
theorem dX3_clear_26 : decode cX3_clear 26 = .ok (.iload_n 2, 1) := by decide +kernel
theorem dX3_clear_27 : decode cX3_clear 27 = .ok (.aaload, 1) := by decide +kernel
theorem dX3_clear_28 : decode cX3_clear 28 = .ok (.lconst 0, 1) := by decide +kernel
theorem dX3_clear_29 : decode cX3_clear 29 = .ok (.invokestatic 33, 3) := by decide +kernel
theorem dX3_clear_32 : decode cX3_clear 32 = .ok (.iinc 2 1, 3) := by decide +kernel
theorem dX3_clear_35 : decode cX3_clear 35 = .ok (.goto (-19), 3) := by decide +kernel
theorem dX3_clear_38 : decode cX3_clear 38 = .ok (.return_, 1) := by decide +kernel
theorem dX3_hasStep_0 : decode cX3_hasStep 0 = .ok (.iload_n 1, 1) := by decide +kernel
theorem dX3_hasStep_1 : decode cX3_hasStep 1 = .ok (.ifCond .lt 28, 3) := by decide +kernel
theorem dX3_hasStep_4 : decode cX3_hasStep 4 = .ok (.iload_n 1, 1) := by decide +kernel
theorem dX3_hasStep_5 : decode cX3_hasStep 5 = .ok (.aload_n 0, 1) := by decide +kernel
theorem dX3_hasStep_6 : decode cX3_hasStep 6 = .ok (.getfield 9, 3) := by decide +kernel
theorem dX3_hasStep_9 : decode cX3_hasStep 9 = .ok (.if_icmp .ge 20, 3) := by decide +kernel
theorem dX3_hasStep_12 : decode cX3_hasStep 12 = .ok (.aload_n 0, 1) := by decide +kernel
theorem dX3_hasStep_13 : decode cX3_hasStep 13 = .ok (.getfield 17, 3) := by decide +kernel
theorem dX3_hasStep_16 : decode cX3_hasStep 16 = .ok (.iload_n 1, 1) := by decide +kernel
theorem dX3_hasStep_17 : decode cX3_hasStep 17 = .ok (.aaload, 1) := by decide +kernel
theorem dX3_hasStep_18 : decode cX3_hasStep 18 = .ok (.iload_n 1, 1) := by decide +kernel
theorem dX3_hasStep_19 : decode cX3_hasStep 19 = .ok (.laload, 1) := by decide +kernel
theorem dX3_hasStep_20 : decode cX3_hasStep 20 = .ok (.lconst 0, 1) := by decide +kernel
theorem dX3_hasStep_21 : decode cX3_hasStep 21 = .ok (.lcmp, 1) := by decide +kernel
theorem dX3_hasStep_22 : decode cX3_hasStep 22 = .ok (.ifCond .eq 7, 3) := by decide +kernel
theorem dX3_hasStep_25 : decode cX3_hasStep 25 = .ok (.iconst 1, 1) := by decide +kernel
theorem dX3_hasStep_26 : decode cX3_hasStep 26 = .ok (.goto 4, 3) := by decide +kernel
theorem dX3_hasStep_29 : decode cX3_hasStep 29 = .ok (.iconst 0, 1) := by decide +kernel
theorem dX3_hasStep_30 : decode cX3_hasStep 30 = .ok (.ireturn, 1) := by decide +kernel
theorem dX3_insert_0 : decode cX3_insert 0 = .ok (.aload_n 1, 1) := by decide +kernel
theorem dX3_insert_1 : decode cX3_insert 1 = .ok (.aload_n 0, 1) := by decide +kernel
theorem dX3_insert_2 : decode cX3_insert 2 = .ok (.getfield 20, 3) := by decide +kernel
theorem dX3_insert_5 : decode cX3_insert 5 = .ok (.invokestatic 39, 3) := by decide +kernel
theorem dX3_insert_8 : decode cX3_insert 8 = .ok (.iconst 0, 1) := by decide +kernel
theorem dX3_insert_9 : decode cX3_insert 9 = .ok (.istore_n 2, 1) := by decide +kernel
theorem dX3_insert_10 : decode cX3_insert 10 = .ok (.iload_n 2, 1) := by decide +kernel
theorem dX3_insert_11 : decode cX3_insert 11 = .ok (.aload_n 0, 1) := by decide +kernel
theorem dX3_insert_12 : decode cX3_insert 12 = .ok (.getfield 9, 3) := by decide +kernel
theorem dX3_insert_15 : decode cX3_insert 15 = .ok (.if_icmp .ge 37, 3) := by decide +kernel
theorem dX3_insert_18 : decode cX3_insert 18 = .ok (.aload_n 0, 1) := by decide +kernel
theorem dX3_insert_19 : decode cX3_insert 19 = .ok (.iload_n 2, 1) := by decide +kernel
theorem dX3_insert_20 : decode cX3_insert 20 = .ok (.invokevirtual 45, 3) := by decide +kernel
theorem dX3_insert_23 : decode cX3_insert 23 = .ok (.aload_n 0, 1) := by decide +kernel
theorem dX3_insert_24 : decode cX3_insert 24 = .ok (.getfield 17, 3) := by decide +kernel
theorem dX3_insert_27 : decode cX3_insert 27 = .ok (.iload_n 2, 1) := by decide +kernel
theorem dX3_insert_28 : decode cX3_insert 28 = .ok (.aaload, 1) := by decide +kernel
theorem dX3_insert_29 : decode cX3_insert 29 = .ok (.iload_n 2, 1) := by decide +kernel
theorem dX3_insert_30 : decode cX3_insert 30 = .ok (.laload, 1) := by decide +kernel
theorem dX3_insert_31 : decode cX3_insert 31 = .ok (.lconst 0, 1) := by decide +kernel
theorem dX3_insert_32 : decode cX3_insert 32 = .ok (.lcmp, 1) := by decide +kernel
theorem dX3_insert_33 : decode cX3_insert 33 = .ok (.ifCond .ge 13, 3) := by decide +kernel
theorem dX3_insert_36 : decode cX3_insert 36 = .ok (.aload_n 0, 1) := by decide +kernel
theorem dX3_insert_37 : decode cX3_insert 37 = .ok (.aload_n 0, 1) := by decide +kernel
theorem dX3_insert_38 : decode cX3_insert 38 = .ok (.getfield 17, 3) := by decide +kernel
theorem dX3_insert_41 : decode cX3_insert 41 = .ok (.iload_n 2, 1) := by decide +kernel
theorem dX3_insert_42 : decode cX3_insert 42 = .ok (.aaload, 1) := by decide +kernel
theorem dX3_insert_43 : decode cX3_insert 43 = .ok (.invokevirtual 49, 3) := by decide +kernel
theorem dX3_insert_46 : decode cX3_insert 46 = .ok (.iinc 2 1, 3) := by decide +kernel
theorem dX3_insert_49 : decode cX3_insert 49 = .ok (.goto (-39), 3) := by decide +kernel
theorem dX3_insert_52 : decode cX3_insert 52 = .ok (.aload_n 0, 1) := by decide +kernel
theorem dX3_insert_53 : decode cX3_insert 53 = .ok (.invokevirtual 53, 3) := by decide +kernel
theorem dX3_insert_56 : decode cX3_insert 56 = .ok (.return_, 1) := by decide +kernel
theorem dX3_reduce_0 : decode cX3_reduce 0 = .ok (.iconst 1, 1) := by decide +kernel
theorem dX3_reduce_1 : decode cX3_reduce 1 = .ok (.istore_n 2, 1) := by decide +kernel
theorem dX3_reduce_2 : decode cX3_reduce 2 = .ok (.iconst 0, 1) := by decide +kernel
theorem dX3_reduce_3 : decode cX3_reduce 3 = .ok (.istore_n 3, 1) := by decide +kernel
theorem dX3_reduce_4 : decode cX3_reduce 4 = .ok (.iload_n 3, 1) := by decide +kernel
theorem dX3_reduce_5 : decode cX3_reduce 5 = .ok (.aload_n 0, 1) := by decide +kernel
theorem dX3_reduce_6 : decode cX3_reduce 6 = .ok (.getfield 9, 3) := by decide +kernel
theorem dX3_reduce_9 : decode cX3_reduce 9 = .ok (.if_icmp .ge 33, 3) := by decide +kernel
theorem dX3_reduce_12 : decode cX3_reduce 12 = .ok (.aload_n 0, 1) := by decide +kernel
theorem dX3_reduce_13 : decode cX3_reduce 13 = .ok (.aload_n 1, 1) := by decide +kernel
theorem dX3_reduce_14 : decode cX3_reduce 14 = .ok (.iload_n 3, 1) := by decide +kernel
theorem dX3_reduce_15 : decode cX3_reduce 15 = .ok (.invokevirtual 56, 3) := by decide +kernel
theorem dX3_reduce_18 : decode cX3_reduce 18 = .ok (.iload_n 2, 1) := by decide +kernel
theorem dX3_reduce_19 : decode cX3_reduce 19 = .ok (.ifCond .eq 15, 3) := by decide +kernel
theorem dX3_reduce_22 : decode cX3_reduce 22 = .ok (.aload_n 1, 1) := by decide +kernel
theorem dX3_reduce_23 : decode cX3_reduce 23 = .ok (.iload_n 3, 1) := by decide +kernel
theorem dX3_reduce_24 : decode cX3_reduce 24 = .ok (.laload, 1) := by decide +kernel
theorem dX3_reduce_25 : decode cX3_reduce 25 = .ok (.lconst 0, 1) := by decide +kernel
theorem dX3_reduce_26 : decode cX3_reduce 26 = .ok (.lcmp, 1) := by decide +kernel
theorem dX3_reduce_27 : decode cX3_reduce 27 = .ok (.ifCond .ne 7, 3) := by decide +kernel
theorem dX3_reduce_30 : decode cX3_reduce 30 = .ok (.iconst 1, 1) := by decide +kernel
theorem dX3_reduce_31 : decode cX3_reduce 31 = .ok (.goto 4, 3) := by decide +kernel
theorem dX3_reduce_34 : decode cX3_reduce 34 = .ok (.iconst 0, 1) := by decide +kernel
theorem dX3_reduce_35 : decode cX3_reduce 35 = .ok (.istore_n 2, 1) := by decide +kernel
theorem dX3_reduce_36 : decode cX3_reduce 36 = .ok (.iinc 3 1, 3) := by decide +kernel
theorem dX3_reduce_39 : decode cX3_reduce 39 = .ok (.goto (-35), 3) := by decide +kernel
theorem dX3_reduce_42 : decode cX3_reduce 42 = .ok (.iload_n 2, 1) := by decide +kernel
theorem dX3_reduce_43 : decode cX3_reduce 43 = .ok (.ireturn, 1) := by decide +kernel
theorem dX3_takeStep_0 : decode cX3_takeStep 0 = .ok (.aload_n 0, 1) := by decide +kernel
theorem dX3_takeStep_1 : decode cX3_takeStep 1 = .ok (.getfield 17, 3) := by decide +kernel
theorem dX3_takeStep_4 : decode cX3_takeStep 4 = .ok (.iload_n 2, 1) := by decide +kernel
theorem dX3_takeStep_5 : decode cX3_takeStep 5 = .ok (.aaload, 1) := by decide +kernel
theorem dX3_takeStep_6 : decode cX3_takeStep 6 = .ok (.iload_n 2, 1) := by decide +kernel
theorem dX3_takeStep_7 : decode cX3_takeStep 7 = .ok (.laload, 1) := by decide +kernel
theorem dX3_takeStep_8 : decode cX3_takeStep 8 = .ok (.lconst 0, 1) := by decide +kernel
theorem dX3_takeStep_9 : decode cX3_takeStep 9 = .ok (.lcmp, 1) := by decide +kernel
theorem dX3_takeStep_10 : decode cX3_takeStep 10 = .ok (.ifCond .eq 28, 3) := by decide +kernel
theorem dX3_takeStep_13 : decode cX3_takeStep 13 = .ok (.aload_n 0, 1) := by decide +kernel
theorem dX3_takeStep_14 : decode cX3_takeStep 14 = .ok (.aload_n 1, 1) := by decide +kernel
theorem dX3_takeStep_15 : decode cX3_takeStep 15 = .ok (.aload_n 0, 1) := by decide +kernel
theorem dX3_takeStep_16 : decode cX3_takeStep 16 = .ok (.getfield 17, 3) := by decide +kernel
theorem dX3_takeStep_19 : decode cX3_takeStep 19 = .ok (.iload_n 2, 1) := by decide +kernel
theorem dX3_takeStep_20 : decode cX3_takeStep 20 = .ok (.aaload, 1) := by decide +kernel
theorem dX3_takeStep_21 : decode cX3_takeStep 21 = .ok (.aload_n 1, 1) := by decide +kernel
theorem dX3_takeStep_22 : decode cX3_takeStep 22 = .ok (.iload_n 2, 1) := by decide +kernel
theorem dX3_takeStep_23 : decode cX3_takeStep 23 = .ok (.laload, 1) := by decide +kernel
theorem dX3_takeStep_24 : decode cX3_takeStep 24 = .ok (.aload_n 0, 1) := by decide +kernel
theorem dX3_takeStep_25 : decode cX3_takeStep 25 = .ok (.getfield 17, 3) := by decide +kernel
theorem dX3_takeStep_28 : decode cX3_takeStep 28 = .ok (.iload_n 2, 1) := by decide +kernel
theorem dX3_takeStep_29 : decode cX3_takeStep 29 = .ok (.aaload, 1) := by decide +kernel
theorem dX3_takeStep_30 : decode cX3_takeStep 30 = .ok (.iload_n 2, 1) := by decide +kernel
theorem dX3_takeStep_31 : decode cX3_takeStep 31 = .ok (.laload, 1) := by decide +kernel
theorem dX3_takeStep_32 : decode cX3_takeStep 32 = .ok (.invokestatic 60, 3) := by decide +kernel
theorem dX3_takeStep_35 : decode cX3_takeStep 35 = .ok (.invokevirtual 64, 3) := by decide +kernel
theorem dX3_takeStep_38 : decode cX3_takeStep 38 = .ok (.return_, 1) := by decide +kernel
theorem dX3_meet_0 : decode cX3_meet 0 = .ok (.iconst 0, 1) := by decide +kernel
theorem dX3_meet_1 : decode cX3_meet 1 = .ok (.istore_n 2, 1) := by decide +kernel
theorem dX3_meet_2 : decode cX3_meet 2 = .ok (.iload_n 2, 1) := by decide +kernel
theorem dX3_meet_3 : decode cX3_meet 3 = .ok (.sipush 1000, 3) := by decide +kernel
theorem dX3_meet_6 : decode cX3_meet 6 = .ok (.if_icmp .ge 61, 3) := by decide +kernel
theorem dX3_meet_9 : decode cX3_meet 9 = .ok (.aload_n 0, 1) := by decide +kernel
theorem dX3_meet_10 : decode cX3_meet 10 = .ok (.getfield 20, 3) := by decide +kernel
theorem dX3_meet_13 : decode cX3_meet 13 = .ok (.iload_n 1, 1) := by decide +kernel
theorem dX3_meet_14 : decode cX3_meet 14 = .ok (.laload, 1) := by decide +kernel
theorem dX3_meet_15 : decode cX3_meet 15 = .ok (.lconst 0, 1) := by decide +kernel
theorem dX3_meet_16 : decode cX3_meet 16 = .ok (.lcmp, 1) := by decide +kernel
theorem dX3_meet_17 : decode cX3_meet 17 = .ok (.ifCond .eq 50, 3) := by decide +kernel
theorem dX3_meet_20 : decode cX3_meet 20 = .ok (.aload_n 0, 1) := by decide +kernel
theorem dX3_meet_21 : decode cX3_meet 21 = .ok (.aload_n 0, 1) := by decide +kernel
theorem dX3_meet_22 : decode cX3_meet 22 = .ok (.getfield 17, 3) := by decide +kernel
theorem dX3_meet_25 : decode cX3_meet 25 = .ok (.iload_n 1, 1) := by decide +kernel
theorem dX3_meet_26 : decode cX3_meet 26 = .ok (.aaload, 1) := by decide +kernel
theorem dX3_meet_27 : decode cX3_meet 27 = .ok (.aload_n 0, 1) := by decide +kernel
theorem dX3_meet_28 : decode cX3_meet 28 = .ok (.getfield 20, 3) := by decide +kernel
theorem dX3_meet_31 : decode cX3_meet 31 = .ok (.aload_n 0, 1) := by decide +kernel
theorem dX3_meet_32 : decode cX3_meet 32 = .ok (.getfield 17, 3) := by decide +kernel
theorem dX3_meet_35 : decode cX3_meet 35 = .ok (.iload_n 1, 1) := by decide +kernel
theorem dX3_meet_36 : decode cX3_meet 36 = .ok (.aaload, 1) := by decide +kernel
theorem dX3_meet_37 : decode cX3_meet 37 = .ok (.iload_n 1, 1) := by decide +kernel
theorem dX3_meet_38 : decode cX3_meet 38 = .ok (.laload, 1) := by decide +kernel
theorem dX3_meet_39 : decode cX3_meet 39 = .ok (.aload_n 0, 1) := by decide +kernel
theorem dX3_meet_40 : decode cX3_meet 40 = .ok (.getfield 20, 3) := by decide +kernel
theorem dX3_meet_43 : decode cX3_meet 43 = .ok (.iload_n 1, 1) := by decide +kernel
theorem dX3_meet_44 : decode cX3_meet 44 = .ok (.laload, 1) := by decide +kernel
theorem dX3_meet_45 : decode cX3_meet 45 = .ok (.invokestatic 60, 3) := by decide +kernel
theorem dX3_meet_48 : decode cX3_meet 48 = .ok (.invokevirtual 64, 3) := by decide +kernel
theorem dX3_meet_51 : decode cX3_meet 51 = .ok (.aload_n 0, 1) := by decide +kernel
theorem dX3_meet_52 : decode cX3_meet 52 = .ok (.aload_n 0, 1) := by decide +kernel
theorem dX3_meet_53 : decode cX3_meet 53 = .ok (.getfield 17, 3) := by decide +kernel
theorem dX3_meet_56 : decode cX3_meet 56 = .ok (.iload_n 1, 1) := by decide +kernel
theorem dX3_meet_57 : decode cX3_meet 57 = .ok (.aaload, 1) := by decide +kernel
theorem dX3_meet_58 : decode cX3_meet 58 = .ok (.invokevirtual 68, 3) := by decide +kernel
theorem dX3_meet_61 : decode cX3_meet 61 = .ok (.iinc 2 1, 3) := by decide +kernel
theorem dX3_meet_64 : decode cX3_meet 64 = .ok (.goto (-62), 3) := by decide +kernel
theorem dX3_meet_67 : decode cX3_meet 67 = .ok (.return_, 1) := by decide +kernel
theorem dX3_swapWithSpare_0 : decode cX3_swapWithSpare 0 = .ok (.iconst 0, 1) := by decide +kernel
theorem dX3_swapWithSpare_1 : decode cX3_swapWithSpare 1 = .ok (.istore_n 2, 1) := by decide +kernel
theorem dX3_swapWithSpare_2 : decode cX3_swapWithSpare 2 = .ok (.iload_n 2, 1) := by decide +kernel
theorem dX3_swapWithSpare_3 : decode cX3_swapWithSpare 3 = .ok (.aload_n 0, 1) := by decide +kernel
theorem dX3_swapWithSpare_4 : decode cX3_swapWithSpare 4 = .ok (.getfield 9, 3) := by decide +kernel
theorem dX3_swapWithSpare_7 : decode cX3_swapWithSpare 7 = .ok (.if_icmp .ge 29, 3) := by decide +kernel
theorem dX3_swapWithSpare_10 : decode cX3_swapWithSpare 10 = .ok (.aload_n 1, 1) := by decide +kernel
theorem dX3_swapWithSpare_11 : decode cX3_swapWithSpare 11 = .ok (.iload_n 2, 1) := by decide +kernel
theorem dX3_swapWithSpare_12 : decode cX3_swapWithSpare 12 = .ok (.laload, 1) := by decide +kernel
theorem dX3_swapWithSpare_13 : decode cX3_swapWithSpare 13 = .ok (.lstore_n 3, 1) := by decide +kernel
theorem dX3_swapWithSpare_14 : decode cX3_swapWithSpare 14 = .ok (.aload_n 1, 1) := by decide +kernel
theorem dX3_swapWithSpare_15 : decode cX3_swapWithSpare 15 = .ok (.iload_n 2, 1) := by decide +kernel
theorem dX3_swapWithSpare_16 : decode cX3_swapWithSpare 16 = .ok (.aload_n 0, 1) := by decide +kernel
theorem dX3_swapWithSpare_17 : decode cX3_swapWithSpare 17 = .ok (.getfield 20, 3) := by decide +kernel
theorem dX3_swapWithSpare_20 : decode cX3_swapWithSpare 20 = .ok (.iload_n 2, 1) := by decide +kernel
theorem dX3_swapWithSpare_21 : decode cX3_swapWithSpare 21 = .ok (.laload, 1) := by decide +kernel
theorem dX3_swapWithSpare_22 : decode cX3_swapWithSpare 22 = .ok (.lastore, 1) := by decide +kernel
theorem dX3_swapWithSpare_23 : decode cX3_swapWithSpare 23 = .ok (.aload_n 0, 1) := by decide +kernel
theorem dX3_swapWithSpare_24 : decode cX3_swapWithSpare 24 = .ok (.getfield 20, 3) := by decide +kernel
theorem dX3_swapWithSpare_27 : decode cX3_swapWithSpare 27 = .ok (.iload_n 2, 1) := by decide +kernel
theorem dX3_swapWithSpare_28 : decode cX3_swapWithSpare 28 = .ok (.lload_n 3, 1) := by decide +kernel
theorem dX3_swapWithSpare_29 : decode cX3_swapWithSpare 29 = .ok (.lastore, 1) := by decide +kernel
theorem dX3_swapWithSpare_30 : decode cX3_swapWithSpare 30 = .ok (.iinc 2 1, 3) := by decide +kernel
theorem dX3_swapWithSpare_33 : decode cX3_swapWithSpare 33 = .ok (.goto (-31), 3) := by decide +kernel
theorem dX3_swapWithSpare_36 : decode cX3_swapWithSpare 36 = .ok (.return_, 1) := by decide +kernel
theorem dX3_subtract_0 : decode cX3_subtract 0 = .ok (.iconst 0, 1) := by decide +kernel
theorem dX3_subtract_1 : decode cX3_subtract 1 = .ok (.istore 5, 2) := by decide +kernel
theorem dX3_subtract_3 : decode cX3_subtract 3 = .ok (.iload 5, 2) := by decide +kernel
theorem dX3_subtract_5 : decode cX3_subtract 5 = .ok (.aload_n 0, 1) := by decide +kernel
theorem dX3_subtract_6 : decode cX3_subtract 6 = .ok (.getfield 9, 3) := by decide +kernel
theorem dX3_subtract_9 : decode cX3_subtract 9 = .ok (.if_icmp .ge 22, 3) := by decide +kernel
theorem dX3_subtract_12 : decode cX3_subtract 12 = .ok (.aload_n 1, 1) := by decide +kernel
theorem dX3_subtract_13 : decode cX3_subtract 13 = .ok (.iload 5, 2) := by decide +kernel
theorem dX3_subtract_15 : decode cX3_subtract 15 = .ok (.dup2, 1) := by decide +kernel
theorem dX3_subtract_16 : decode cX3_subtract 16 = .ok (.laload, 1) := by decide +kernel
theorem dX3_subtract_17 : decode cX3_subtract 17 = .ok (.lload_n 3, 1) := by decide +kernel
theorem dX3_subtract_18 : decode cX3_subtract 18 = .ok (.aload_n 2, 1) := by decide +kernel
theorem dX3_subtract_19 : decode cX3_subtract 19 = .ok (.iload 5, 2) := by decide +kernel
theorem dX3_subtract_21 : decode cX3_subtract 21 = .ok (.laload, 1) := by decide +kernel
theorem dX3_subtract_22 : decode cX3_subtract 22 = .ok (.lmul, 1) := by decide +kernel
theorem dX3_subtract_23 : decode cX3_subtract 23 = .ok (.lsub, 1) := by decide +kernel
theorem dX3_subtract_24 : decode cX3_subtract 24 = .ok (.lastore, 1) := by decide +kernel
theorem dX3_subtract_25 : decode cX3_subtract 25 = .ok (.iinc 5 1, 3) := by decide +kernel
theorem dX3_subtract_28 : decode cX3_subtract 28 = .ok (.goto (-25), 3) := by decide +kernel
theorem dX3_subtract_31 : decode cX3_subtract 31 = .ok (.return_, 1) := by decide +kernel
theorem dX3_negate_0 : decode cX3_negate 0 = .ok (.iconst 0, 1) := by decide +kernel
theorem dX3_negate_1 : decode cX3_negate 1 = .ok (.istore_n 2, 1) := by decide +kernel
theorem dX3_negate_2 : decode cX3_negate 2 = .ok (.iload_n 2, 1) := by decide +kernel
theorem dX3_negate_3 : decode cX3_negate 3 = .ok (.aload_n 0, 1) := by decide +kernel
theorem dX3_negate_4 : decode cX3_negate 4 = .ok (.getfield 9, 3) := by decide +kernel
theorem dX3_negate_7 : decode cX3_negate 7 = .ok (.if_icmp .ge 16, 3) := by decide +kernel
theorem dX3_negate_10 : decode cX3_negate 10 = .ok (.aload_n 1, 1) := by decide +kernel
theorem dX3_negate_11 : decode cX3_negate 11 = .ok (.iload_n 2, 1) := by decide +kernel
theorem dX3_negate_12 : decode cX3_negate 12 = .ok (.aload_n 1, 1) := by decide +kernel
theorem dX3_negate_13 : decode cX3_negate 13 = .ok (.iload_n 2, 1) := by decide +kernel
theorem dX3_negate_14 : decode cX3_negate 14 = .ok (.laload, 1) := by decide +kernel
theorem dX3_negate_15 : decode cX3_negate 15 = .ok (.lneg, 1) := by decide +kernel
theorem dX3_negate_16 : decode cX3_negate 16 = .ok (.lastore, 1) := by decide +kernel
theorem dX3_negate_17 : decode cX3_negate 17 = .ok (.iinc 2 1, 3) := by decide +kernel
theorem dX3_negate_20 : decode cX3_negate 20 = .ok (.goto (-18), 3) := by decide +kernel
theorem dX3_negate_23 : decode cX3_negate 23 = .ok (.return_, 1) := by decide +kernel
theorem dX3_tidy_0 : decode cX3_tidy 0 = .ok (.aload_n 0, 1) := by decide +kernel
theorem dX3_tidy_1 : decode cX3_tidy 1 = .ok (.getfield 9, 3) := by decide +kernel
theorem dX3_tidy_4 : decode cX3_tidy 4 = .ok (.iconst 1, 1) := by decide +kernel
theorem dX3_tidy_5 : decode cX3_tidy 5 = .ok (.isub, 1) := by decide +kernel
theorem dX3_tidy_6 : decode cX3_tidy 6 = .ok (.istore_n 1, 1) := by decide +kernel
theorem dX3_tidy_7 : decode cX3_tidy 7 = .ok (.iload_n 1, 1) := by decide +kernel
theorem dX3_tidy_8 : decode cX3_tidy 8 = .ok (.ifCond .lt 38, 3) := by decide +kernel
theorem dX3_tidy_11 : decode cX3_tidy 11 = .ok (.iload_n 1, 1) := by decide +kernel
theorem dX3_tidy_12 : decode cX3_tidy 12 = .ok (.iconst 1, 1) := by decide +kernel
theorem dX3_tidy_13 : decode cX3_tidy 13 = .ok (.iadd, 1) := by decide +kernel
theorem dX3_tidy_14 : decode cX3_tidy 14 = .ok (.istore_n 2, 1) := by decide +kernel
theorem dX3_tidy_15 : decode cX3_tidy 15 = .ok (.iload_n 2, 1) := by decide +kernel
theorem dX3_tidy_16 : decode cX3_tidy 16 = .ok (.aload_n 0, 1) := by decide +kernel
theorem dX3_tidy_17 : decode cX3_tidy 17 = .ok (.getfield 9, 3) := by decide +kernel
theorem dX3_tidy_20 : decode cX3_tidy 20 = .ok (.if_icmp .ge 20, 3) := by decide +kernel
theorem dX3_tidy_23 : decode cX3_tidy 23 = .ok (.aload_n 0, 1) := by decide +kernel
theorem dX3_tidy_24 : decode cX3_tidy 24 = .ok (.aload_n 0, 1) := by decide +kernel
theorem dX3_tidy_25 : decode cX3_tidy 25 = .ok (.getfield 17, 3) := by decide +kernel
theorem dX3_tidy_28 : decode cX3_tidy 28 = .ok (.iload_n 1, 1) := by decide +kernel
theorem dX3_tidy_29 : decode cX3_tidy 29 = .ok (.aaload, 1) := by decide +kernel
theorem dX3_tidy_30 : decode cX3_tidy 30 = .ok (.iload_n 2, 1) := by decide +kernel
theorem dX3_tidy_31 : decode cX3_tidy 31 = .ok (.invokevirtual 56, 3) := by decide +kernel
theorem dX3_tidy_34 : decode cX3_tidy 34 = .ok (.iinc 2 1, 3) := by decide +kernel
theorem dX3_tidy_37 : decode cX3_tidy 37 = .ok (.goto (-22), 3) := by decide +kernel
theorem dX3_tidy_40 : decode cX3_tidy 40 = .ok (.iinc 1 (-1), 3) := by decide +kernel
theorem dX3_tidy_43 : decode cX3_tidy 43 = .ok (.goto (-36), 3) := by decide +kernel
theorem dX3_tidy_46 : decode cX3_tidy 46 = .ok (.return_, 1) := by decide +kernel
theorem dX4_init_0 : decode cX4_init 0 = .ok (.aload_n 0, 1) := by decide +kernel
theorem dX4_init_1 : decode cX4_init 1 = .ok (.invokespecial 3, 3) := by decide +kernel
theorem dX4_init_4 : decode cX4_init 4 = .ok (.aload_n 0, 1) := by decide +kernel
theorem dX4_init_5 : decode cX4_init 5 = .ok (.new 9, 3) := by decide +kernel
theorem dX4_init_8 : decode cX4_init 8 = .ok (.dup, 1) := by decide +kernel
theorem dX4_init_9 : decode cX4_init 9 = .ok (.invokespecial 11, 3) := by decide +kernel
theorem dX4_init_12 : decode cX4_init 12 = .ok (.putfield 12, 3) := by decide +kernel
theorem dX4_init_15 : decode cX4_init 15 = .ok (.aload_n 0, 1) := by decide +kernel
theorem dX4_init_16 : decode cX4_init 16 = .ok (.bipush 6, 2) := by decide +kernel
theorem dX4_init_18 : decode cX4_init 18 = .ok (.anewarray 18, 3) := by decide +kernel
theorem dX4_init_21 : decode cX4_init 21 = .ok (.putfield 20, 3) := by decide +kernel
theorem dX4_init_24 : decode cX4_init 24 = .ok (.aload_n 0, 1) := by decide +kernel
theorem dX4_init_25 : decode cX4_init 25 = .ok (.iconst 0, 1) := by decide +kernel
theorem dX4_init_26 : decode cX4_init 26 = .ok (.putfield 24, 3) := by decide +kernel
theorem dX4_init_29 : decode cX4_init 29 = .ok (.aload_n 0, 1) := by decide +kernel
theorem dX4_init_30 : decode cX4_init 30 = .ok (.iconst 0, 1) := by decide +kernel
theorem dX4_init_31 : decode cX4_init 31 = .ok (.putfield 28, 3) := by decide +kernel
theorem dX4_init_34 : decode cX4_init 34 = .ok (.aload_n 0, 1) := by decide +kernel
theorem dX4_init_35 : decode cX4_init 35 = .ok (.bipush 12, 2) := by decide +kernel
theorem dX4_init_37 : decode cX4_init 37 = .ok (.newarray .int, 2) := by decide +kernel
theorem dX4_init_39 : decode cX4_init 39 = .ok (.putfield 32, 3) := by decide +kernel
theorem dX4_init_42 : decode cX4_init 42 = .ok (.aload_n 0, 1) := by decide +kernel
theorem dX4_init_43 : decode cX4_init 43 = .ok (.iconst 0, 1) := by decide +kernel
theorem dX4_init_44 : decode cX4_init 44 = .ok (.putfield 36, 3) := by decide +kernel
theorem dX4_init_47 : decode cX4_init 47 = .ok (.aload_n 0, 1) := by decide +kernel
theorem dX4_init_48 : decode cX4_init 48 = .ok (.bipush 64, 2) := by decide +kernel
theorem dX4_init_50 : decode cX4_init 50 = .ok (.newarray .long, 2) := by decide +kernel
theorem dX4_init_52 : decode cX4_init 52 = .ok (.putfield 39, 3) := by decide +kernel
theorem dX4_init_55 : decode cX4_init 55 = .ok (.aload_n 0, 1) := by decide +kernel
theorem dX4_init_56 : decode cX4_init 56 = .ok (.bipush 6, 2) := by decide +kernel
theorem dX4_init_58 : decode cX4_init 58 = .ok (.newarray .int, 2) := by decide +kernel
theorem dX4_init_60 : decode cX4_init 60 = .ok (.putfield 43, 3) := by decide +kernel
theorem dX4_init_63 : decode cX4_init 63 = .ok (.aload_n 0, 1) := by decide +kernel
theorem dX4_init_64 : decode cX4_init 64 = .ok (.aload_n 1, 1) := by decide +kernel
theorem dX4_init_65 : decode cX4_init 65 = .ok (.putfield 46, 3) := by decide +kernel
theorem dX4_init_68 : decode cX4_init 68 = .ok (.iconst 0, 1) := by decide +kernel
theorem dX4_init_69 : decode cX4_init 69 = .ok (.istore_n 2, 1) := by decide +kernel
theorem dX4_init_70 : decode cX4_init 70 = .ok (.iload_n 2, 1) := by decide +kernel
theorem dX4_init_71 : decode cX4_init 71 = .ok (.bipush 6, 2) := by decide +kernel
theorem dX4_init_73 : decode cX4_init 73 = .ok (.if_icmp .ge 22, 3) := by decide +kernel
theorem dX4_init_76 : decode cX4_init 76 = .ok (.aload_n 0, 1) := by decide +kernel
theorem dX4_init_77 : decode cX4_init 77 = .ok (.getfield 20, 3) := by decide +kernel
theorem dX4_init_80 : decode cX4_init 80 = .ok (.iload_n 2, 1) := by decide +kernel
theorem dX4_init_81 : decode cX4_init 81 = .ok (.new 18, 3) := by decide +kernel
theorem dX4_init_84 : decode cX4_init 84 = .ok (.dup, 1) := by decide +kernel
theorem dX4_init_85 : decode cX4_init 85 = .ok (.invokespecial 50, 3) := by decide +kernel
theorem dX4_init_88 : decode cX4_init 88 = .ok (.aastore, 1) := by decide +kernel
theorem dX4_init_89 : decode cX4_init 89 = .ok (.iinc 2 1, 3) := by decide +kernel
theorem dX4_init_92 : decode cX4_init 92 = .ok (.goto (-22), 3) := by decide +kernel
theorem dX4_init_95 : decode cX4_init 95 = .ok (.return_, 1) := by decide +kernel
theorem dX4_follow_0 : decode cX4_follow 0 = .ok (.aload_n 0, 1) := by decide +kernel
theorem dX4_follow_1 : decode cX4_follow 1 = .ok (.getfield 12, 3) := by decide +kernel
theorem dX4_follow_4 : decode cX4_follow 4 = .ok (.aload_n 1, 1) := by decide +kernel
theorem dX4_follow_5 : decode cX4_follow 5 = .ok (.invokevirtual 51, 3) := by decide +kernel
theorem dX4_follow_8 : decode cX4_follow 8 = .ok (.ifCond .eq 4, 3) := by decide +kernel
theorem dX4_follow_11 : decode cX4_follow 11 = .ok (.return_, 1) := by decide +kernel
theorem dX4_follow_12 : decode cX4_follow 12 = .ok (.aload_n 0, 1) := by decide +kernel
theorem dX4_follow_13 : decode cX4_follow 13 = .ok (.getfield 12, 3) := by decide +kernel
theorem dX4_follow_16 : decode cX4_follow 16 = .ok (.aload_n 1, 1) := by decide +kernel
theorem dX4_follow_17 : decode cX4_follow 17 = .ok (.invokevirtual 55, 3) := by decide +kernel
theorem dX4_follow_20 : decode cX4_follow 20 = .ok (.aload_n 0, 1) := by decide +kernel
theorem dX4_follow_21 : decode cX4_follow 21 = .ok (.dup, 1) := by decide +kernel
theorem dX4_follow_22 : decode cX4_follow 22 = .ok (.getfield 28, 3) := by decide +kernel
theorem dX4_follow_25 : decode cX4_follow 25 = .ok (.iconst 1, 1) := by decide +kernel
theorem dX4_follow_26 : decode cX4_follow 26 = .ok (.iadd, 1) := by decide +kernel
theorem dX4_follow_27 : decode cX4_follow 27 = .ok (.putfield 28, 3) := by decide +kernel
theorem dX4_follow_30 : decode cX4_follow 30 = .ok (.aload_n 0, 1) := by decide +kernel
theorem dX4_follow_31 : decode cX4_follow 31 = .ok (.aload_n 0, 1) := by decide +kernel
theorem dX4_follow_32 : decode cX4_follow 32 = .ok (.invokevirtual 59, 3) := by decide +kernel
theorem dX4_follow_35 : decode cX4_follow 35 = .ok (.putfield 24, 3) := by decide +kernel
theorem dX4_follow_38 : decode cX4_follow 38 = .ok (.iconst 0, 1) := by decide +kernel
theorem dX4_follow_39 : decode cX4_follow 39 = .ok (.istore_n 2, 1) := by decide +kernel
theorem dX4_follow_40 : decode cX4_follow 40 = .ok (.iload_n 2, 1) := by decide +kernel
theorem dX4_follow_41 : decode cX4_follow 41 = .ok (.bipush 6, 2) := by decide +kernel
theorem dX4_follow_43 : decode cX4_follow 43 = .ok (.if_icmp .ge 19, 3) := by decide +kernel
theorem dX4_follow_46 : decode cX4_follow 46 = .ok (.aload_n 0, 1) := by decide +kernel
theorem dX4_follow_47 : decode cX4_follow 47 = .ok (.getfield 20, 3) := by decide +kernel
theorem dX4_follow_50 : decode cX4_follow 50 = .ok (.iload_n 2, 1) := by decide +kernel
theorem dX4_follow_51 : decode cX4_follow 51 = .ok (.aaload, 1) := by decide +kernel
theorem dX4_follow_52 : decode cX4_follow 52 = .ok (.iconst 0, 1) := by decide +kernel
theorem dX4_follow_53 : decode cX4_follow 53 = .ok (.putfield 63, 3) := by decide +kernel
theorem dX4_follow_56 : decode cX4_follow 56 = .ok (.iinc 2 1, 3) := by decide +kernel
theorem dX4_follow_59 : decode cX4_follow 59 = .ok (.goto (-19), 3) := by decide +kernel
theorem dX4_follow_62 : decode cX4_follow 62 = .ok (.aload_n 0, 1) := by decide +kernel
theorem dX4_follow_63 : decode cX4_follow 63 = .ok (.getfield 24, 3) := by decide +kernel
theorem dX4_follow_66 : decode cX4_follow 66 = .ok (.ifCond .eq 7, 3) := by decide +kernel
theorem dX4_follow_69 : decode cX4_follow 69 = .ok (.aload_n 0, 1) := by decide +kernel
theorem dX4_follow_70 : decode cX4_follow 70 = .ok (.invokevirtual 66, 3) := by decide +kernel
theorem dX4_follow_73 : decode cX4_follow 73 = .ok (.return_, 1) := by decide +kernel
theorem dX4_termCount_0 : decode cX4_termCount 0 = .ok (.iconst 0, 1) := by decide +kernel
theorem dX4_termCount_1 : decode cX4_termCount 1 = .ok (.istore_n 1, 1) := by decide +kernel
theorem dX4_termCount_2 : decode cX4_termCount 2 = .ok (.iconst 0, 1) := by decide +kernel
theorem dX4_termCount_3 : decode cX4_termCount 3 = .ok (.istore_n 2, 1) := by decide +kernel
theorem dX4_termCount_4 : decode cX4_termCount 4 = .ok (.iload_n 2, 1) := by decide +kernel
theorem dX4_termCount_5 : decode cX4_termCount 5 = .ok (.bipush 6, 2) := by decide +kernel
theorem dX4_termCount_7 : decode cX4_termCount 7 = .ok (.if_icmp .ge 21, 3) := by decide +kernel
theorem dX4_termCount_10 : decode cX4_termCount 10 = .ok (.iload_n 1, 1) := by decide +kernel
theorem dX4_termCount_11 : decode cX4_termCount 11 = .ok (.aload_n 0, 1) := by decide +kernel
theorem dX4_termCount_12 : decode cX4_termCount 12 = .ok (.getfield 20, 3) := by decide +kernel
theorem dX4_termCount_15 : decode cX4_termCount 15 = .ok (.iload_n 2, 1) := by decide +kernel
theorem dX4_termCount_16 : decode cX4_termCount 16 = .ok (.aaload, 1) := by decide +kernel
theorem dX4_termCount_17 : decode cX4_termCount 17 = .ok (.getfield 63, 3) := by decide +kernel
theorem dX4_termCount_20 : decode cX4_termCount 20 = .ok (.iadd, 1) := by decide +kernel
theorem dX4_termCount_21 : decode cX4_termCount 21 = .ok (.istore_n 1, 1) := by decide +kernel
theorem dX4_termCount_22 : decode cX4_termCount 22 = .ok (.iinc 2 1, 3) := by decide +kernel
theorem dX4_termCount_25 : decode cX4_termCount 25 = .ok (.goto (-21), 3) := by decide +kernel
theorem dX4_termCount_28 : decode cX4_termCount 28 = .ok (.iload_n 1, 1) := by decide +kernel
theorem dX4_termCount_29 : decode cX4_termCount 29 = .ok (.ireturn, 1) := by decide +kernel
theorem dX4_put_0 : decode cX4_put 0 = .ok (.iconst 4, 1) := by decide +kernel
theorem dX4_put_1 : decode cX4_put 1 = .ok (.iload_n 1, 1) := by decide +kernel
theorem dX4_put_2 : decode cX4_put 2 = .ok (.imul, 1) := by decide +kernel
theorem dX4_put_3 : decode cX4_put 3 = .ok (.istore 4, 2) := by decide +kernel
theorem dX4_put_5 : decode cX4_put 5 = .ok (.iload 4, 2) := by decide +kernel
theorem dX4_put_7 : decode cX4_put 7 = .ok (.ifCond .lt 12, 3) := by decide +kernel
theorem dX4_put_10 : decode cX4_put 10 = .ok (.iload 4, 2) := by decide +kernel
theorem dX4_put_12 : decode cX4_put 12 = .ok (.iconst 2, 1) := by decide +kernel
theorem dX4_put_13 : decode cX4_put 13 = .ok (.iadd, 1) := by decide +kernel
theorem dX4_put_14 : decode cX4_put 14 = .ok (.aload_n 0, 1) := by decide +kernel
theorem dX4_put_15 : decode cX4_put 15 = .ok (.arraylength, 1) := by decide +kernel
theorem dX4_put_16 : decode cX4_put 16 = .ok (.if_icmp .lt 4, 3) := by decide +kernel
theorem dX4_put_19 : decode cX4_put 19 = .ok (.return_, 1) := by decide +kernel
theorem dX4_put_20 : decode cX4_put 20 = .ok (.aload_n 0, 1) := by decide +kernel
theorem dX4_put_21 : decode cX4_put 21 = .ok (.iload 4, 2) := by decide +kernel
theorem dX4_put_23 : decode cX4_put 23 = .ok (.lconst 1, 1) := by decide +kernel
theorem dX4_put_24 : decode cX4_put 24 = .ok (.lastore, 1) := by decide +kernel
theorem dX4_put_25 : decode cX4_put 25 = .ok (.aload_n 0, 1) := by decide +kernel
theorem dX4_put_26 : decode cX4_put 26 = .ok (.iload 4, 2) := by decide +kernel
theorem dX4_put_28 : decode cX4_put 28 = .ok (.iconst 1, 1) := by decide +kernel
theorem dX4_put_29 : decode cX4_put 29 = .ok (.iadd, 1) := by decide +kernel
theorem dX4_put_30 : decode cX4_put 30 = .ok (.lload_n 2, 1) := by decide +kernel
theorem dX4_put_31 : decode cX4_put 31 = .ok (.lastore, 1) := by decide +kernel
theorem dX4_put_32 : decode cX4_put 32 = .ok (.aload_n 0, 1) := by decide +kernel
theorem dX4_put_33 : decode cX4_put 33 = .ok (.iload 4, 2) := by decide +kernel
theorem dX4_put_35 : decode cX4_put 35 = .ok (.iconst 2, 1) := by decide +kernel
theorem dX4_put_36 : decode cX4_put 36 = .ok (.iadd, 1) := by decide +kernel
theorem dX4_put_37 : decode cX4_put 37 = .ok (.lload_n 2, 1) := by decide +kernel
theorem dX4_put_38 : decode cX4_put 38 = .ok (.lload_n 2, 1) := by decide +kernel
theorem dX4_put_39 : decode cX4_put 39 = .ok (.lconst 1, 1) := by decide +kernel
theorem dX4_put_40 : decode cX4_put 40 = .ok (.lsub, 1) := by decide +kernel
theorem dX4_put_41 : decode cX4_put 41 = .ok (.lmul, 1) := by decide +kernel
theorem dX4_put_42 : decode cX4_put 42 = .ok (.ldc2_w 69, 3) := by decide +kernel
theorem dX4_put_45 : decode cX4_put 45 = .ok (.ldiv, 1) := by decide +kernel
theorem dX4_put_46 : decode cX4_put 46 = .ok (.lastore, 1) := by decide +kernel
theorem dX4_put_47 : decode cX4_put 47 = .ok (.return_, 1) := by decide +kernel
theorem dX4_areOverlapsAlike_0 : decode cX4_areOverlapsAlike 0 = .ok (.iconst 2, 1) := by decide +kernel
theorem dX4_areOverlapsAlike_1 : decode cX4_areOverlapsAlike 1 = .ok (.istore_n 1, 1) := by decide +kernel
theorem dX4_areOverlapsAlike_2 : decode cX4_areOverlapsAlike 2 = .ok (.iload_n 1, 1) := by decide +kernel
theorem dX4_areOverlapsAlike_3 : decode cX4_areOverlapsAlike 3 = .ok (.aload_n 0, 1) := by decide +kernel
theorem dX4_areOverlapsAlike_4 : decode cX4_areOverlapsAlike 4 = .ok (.getfield 12, 3) := by decide +kernel
theorem dX4_areOverlapsAlike_7 : decode cX4_areOverlapsAlike 7 = .ok (.getfield 71, 3) := by decide +kernel
theorem dX4_areOverlapsAlike_10 : decode cX4_areOverlapsAlike 10 = .ok (.if_icmp .ge 47, 3) := by decide +kernel
theorem dX4_areOverlapsAlike_13 : decode cX4_areOverlapsAlike 13 = .ok (.iconst 1, 1) := by decide +kernel
theorem dX4_areOverlapsAlike_14 : decode cX4_areOverlapsAlike 14 = .ok (.istore_n 2, 1) := by decide +kernel
theorem dX4_areOverlapsAlike_15 : decode cX4_areOverlapsAlike 15 = .ok (.iload_n 2, 1) := by decide +kernel
theorem dX4_areOverlapsAlike_16 : decode cX4_areOverlapsAlike 16 = .ok (.iload_n 1, 1) := by decide +kernel
theorem dX4_areOverlapsAlike_17 : decode cX4_areOverlapsAlike 17 = .ok (.if_icmp .ge 34, 3) := by decide +kernel
theorem dX4_areOverlapsAlike_20 : decode cX4_areOverlapsAlike 20 = .ok (.iconst 0, 1) := by decide +kernel
theorem dX4_areOverlapsAlike_21 : decode cX4_areOverlapsAlike 21 = .ok (.istore_n 3, 1) := by decide +kernel
theorem dX4_areOverlapsAlike_22 : decode cX4_areOverlapsAlike 22 = .ok (.iload_n 3, 1) := by decide +kernel
theorem dX4_areOverlapsAlike_23 : decode cX4_areOverlapsAlike 23 = .ok (.iload_n 2, 1) := by decide +kernel
theorem dX4_areOverlapsAlike_24 : decode cX4_areOverlapsAlike 24 = .ok (.if_icmp .ge 21, 3) := by decide +kernel
theorem dX4_areOverlapsAlike_27 : decode cX4_areOverlapsAlike 27 = .ok (.aload_n 0, 1) := by decide +kernel
theorem dX4_areOverlapsAlike_28 : decode cX4_areOverlapsAlike 28 = .ok (.iload_n 1, 1) := by decide +kernel
theorem dX4_areOverlapsAlike_29 : decode cX4_areOverlapsAlike 29 = .ok (.iload_n 2, 1) := by decide +kernel
theorem dX4_areOverlapsAlike_30 : decode cX4_areOverlapsAlike 30 = .ok (.iload_n 3, 1) := by decide +kernel
theorem dX4_areOverlapsAlike_31 : decode cX4_areOverlapsAlike 31 = .ok (.invokevirtual 72, 3) := by decide +kernel
theorem dX4_areOverlapsAlike_34 : decode cX4_areOverlapsAlike 34 = .ok (.ifCond .ne 5, 3) := by decide +kernel
theorem dX4_areOverlapsAlike_37 : decode cX4_areOverlapsAlike 37 = .ok (.iconst 0, 1) := by decide +kernel
theorem dX4_areOverlapsAlike_38 : decode cX4_areOverlapsAlike 38 = .ok (.ireturn, 1) := by decide +kernel
theorem dX4_areOverlapsAlike_39 : decode cX4_areOverlapsAlike 39 = .ok (.iinc 3 1, 3) := by decide +kernel
theorem dX4_areOverlapsAlike_42 : decode cX4_areOverlapsAlike 42 = .ok (.goto (-20), 3) := by decide +kernel
theorem dX4_areOverlapsAlike_45 : decode cX4_areOverlapsAlike 45 = .ok (.iinc 2 1, 3) := by decide +kernel
theorem dX4_areOverlapsAlike_48 : decode cX4_areOverlapsAlike 48 = .ok (.goto (-33), 3) := by decide +kernel
theorem dX4_areOverlapsAlike_51 : decode cX4_areOverlapsAlike 51 = .ok (.iinc 1 1, 3) := by decide +kernel
theorem dX4_areOverlapsAlike_54 : decode cX4_areOverlapsAlike 54 = .ok (.goto (-52), 3) := by decide +kernel
theorem dX4_areOverlapsAlike_57 : decode cX4_areOverlapsAlike 57 = .ok (.iconst 1, 1) := by decide +kernel
theorem dX4_areOverlapsAlike_58 : decode cX4_areOverlapsAlike 58 = .ok (.ireturn, 1) := by decide +kernel
theorem dX4_isOverlapAlike_0 : decode cX4_isOverlapAlike 0 = .ok (.aload_n 0, 1) := by decide +kernel
theorem dX4_isOverlapAlike_1 : decode cX4_isOverlapAlike 1 = .ok (.getfield 46, 3) := by decide +kernel
theorem dX4_isOverlapAlike_4 : decode cX4_isOverlapAlike 4 = .ok (.invokevirtual 76, 3) := by decide +kernel
theorem dX4_isOverlapAlike_7 : decode cX4_isOverlapAlike 7 = .ok (.aload_n 0, 1) := by decide +kernel
theorem dX4_isOverlapAlike_8 : decode cX4_isOverlapAlike 8 = .ok (.getfield 46, 3) := by decide +kernel
theorem dX4_isOverlapAlike_11 : decode cX4_isOverlapAlike 11 = .ok (.iload_n 2, 1) := by decide +kernel
theorem dX4_isOverlapAlike_12 : decode cX4_isOverlapAlike 12 = .ok (.invokevirtual 81, 3) := by decide +kernel
theorem dX4_isOverlapAlike_15 : decode cX4_isOverlapAlike 15 = .ok (.aload_n 0, 1) := by decide +kernel
theorem dX4_isOverlapAlike_16 : decode cX4_isOverlapAlike 16 = .ok (.getfield 46, 3) := by decide +kernel
theorem dX4_isOverlapAlike_19 : decode cX4_isOverlapAlike 19 = .ok (.iload_n 1, 1) := by decide +kernel
theorem dX4_isOverlapAlike_20 : decode cX4_isOverlapAlike 20 = .ok (.invokevirtual 81, 3) := by decide +kernel
theorem dX4_isOverlapAlike_23 : decode cX4_isOverlapAlike 23 = .ok (.aload_n 0, 1) := by decide +kernel
theorem dX4_isOverlapAlike_24 : decode cX4_isOverlapAlike 24 = .ok (.getfield 46, 3) := by decide +kernel
theorem dX4_isOverlapAlike_27 : decode cX4_isOverlapAlike 27 = .ok (.aload_n 0, 1) := by decide +kernel
theorem dX4_isOverlapAlike_28 : decode cX4_isOverlapAlike 28 = .ok (.getfield 12, 3) := by decide +kernel
theorem dX4_isOverlapAlike_31 : decode cX4_isOverlapAlike 31 = .ok (.iload_n 1, 1) := by decide +kernel
theorem dX4_isOverlapAlike_32 : decode cX4_isOverlapAlike 32 = .ok (.iload_n 2, 1) := by decide +kernel
theorem dX4_isOverlapAlike_33 : decode cX4_isOverlapAlike 33 = .ok (.invokevirtual 85, 3) := by decide +kernel
theorem dX4_isOverlapAlike_36 : decode cX4_isOverlapAlike 36 = .ok (.aload_n 0, 1) := by decide +kernel
theorem dX4_isOverlapAlike_37 : decode cX4_isOverlapAlike 37 = .ok (.getfield 46, 3) := by decide +kernel
theorem dX4_isOverlapAlike_40 : decode cX4_isOverlapAlike 40 = .ok (.iload_n 3, 1) := by decide +kernel
theorem dX4_isOverlapAlike_41 : decode cX4_isOverlapAlike 41 = .ok (.invokevirtual 81, 3) := by decide +kernel
theorem dX4_isOverlapAlike_44 : decode cX4_isOverlapAlike 44 = .ok (.aload_n 0, 1) := by decide +kernel
theorem dX4_isOverlapAlike_45 : decode cX4_isOverlapAlike 45 = .ok (.getfield 46, 3) := by decide +kernel
theorem dX4_isOverlapAlike_48 : decode cX4_isOverlapAlike 48 = .ok (.aload_n 0, 1) := by decide +kernel
theorem dX4_isOverlapAlike_49 : decode cX4_isOverlapAlike 49 = .ok (.getfield 12, 3) := by decide +kernel
theorem dX4_isOverlapAlike_52 : decode cX4_isOverlapAlike 52 = .ok (.sipush 1000, 3) := by decide +kernel
theorem dX4_isOverlapAlike_55 : decode cX4_isOverlapAlike 55 = .ok (.invokevirtual 89, 3) := by decide +kernel
theorem dX4_isOverlapAlike_58 : decode cX4_isOverlapAlike 58 = .ok (.pop, 1) := by decide +kernel
theorem dX4_isOverlapAlike_59 : decode cX4_isOverlapAlike 59 = .ok (.aload_n 0, 1) := by decide +kernel
theorem dX4_isOverlapAlike_60 : decode cX4_isOverlapAlike 60 = .ok (.getfield 46, 3) := by decide +kernel
theorem dX4_isOverlapAlike_63 : decode cX4_isOverlapAlike 63 = .ok (.getfield 93, 3) := by decide +kernel
theorem dX4_isOverlapAlike_66 : decode cX4_isOverlapAlike 66 = .ok (.iconst 0, 1) := by decide +kernel
theorem dX4_isOverlapAlike_67 : decode cX4_isOverlapAlike 67 = .ok (.aload_n 0, 1) := by decide +kernel
theorem dX4_isOverlapAlike_68 : decode cX4_isOverlapAlike 68 = .ok (.getfield 43, 3) := by decide +kernel
theorem dX4_isOverlapAlike_71 : decode cX4_isOverlapAlike 71 = .ok (.iconst 0, 1) := by decide +kernel
theorem dX4_isOverlapAlike_72 : decode cX4_isOverlapAlike 72 = .ok (.bipush 6, 2) := by decide +kernel
theorem dX4_isOverlapAlike_74 : decode cX4_isOverlapAlike 74 = .ok (.invokestatic 94, 3) := by decide +kernel
theorem dX4_isOverlapAlike_77 : decode cX4_isOverlapAlike 77 = .ok (.aload_n 0, 1) := by decide +kernel
theorem dX4_isOverlapAlike_78 : decode cX4_isOverlapAlike 78 = .ok (.getfield 46, 3) := by decide +kernel
theorem dX4_isOverlapAlike_81 : decode cX4_isOverlapAlike 81 = .ok (.invokevirtual 76, 3) := by decide +kernel
theorem dX4_isOverlapAlike_84 : decode cX4_isOverlapAlike 84 = .ok (.aload_n 0, 1) := by decide +kernel
theorem dX4_isOverlapAlike_85 : decode cX4_isOverlapAlike 85 = .ok (.getfield 46, 3) := by decide +kernel
theorem dX4_isOverlapAlike_88 : decode cX4_isOverlapAlike 88 = .ok (.iload_n 1, 1) := by decide +kernel
theorem dX4_isOverlapAlike_89 : decode cX4_isOverlapAlike 89 = .ok (.invokevirtual 81, 3) := by decide +kernel
theorem dX4_isOverlapAlike_92 : decode cX4_isOverlapAlike 92 = .ok (.aload_n 0, 1) := by decide +kernel
theorem dX4_isOverlapAlike_93 : decode cX4_isOverlapAlike 93 = .ok (.getfield 46, 3) := by decide +kernel
theorem dX4_isOverlapAlike_96 : decode cX4_isOverlapAlike 96 = .ok (.iload_n 3, 1) := by decide +kernel
theorem dX4_isOverlapAlike_97 : decode cX4_isOverlapAlike 97 = .ok (.invokevirtual 81, 3) := by decide +kernel
theorem dX4_isOverlapAlike_100 : decode cX4_isOverlapAlike 100 = .ok (.aload_n 0, 1) := by decide +kernel
theorem dX4_isOverlapAlike_101 : decode cX4_isOverlapAlike 101 = .ok (.getfield 46, 3) := by decide +kernel
theorem dX4_isOverlapAlike_104 : decode cX4_isOverlapAlike 104 = .ok (.iload_n 2, 1) := by decide +kernel
theorem dX4_isOverlapAlike_105 : decode cX4_isOverlapAlike 105 = .ok (.invokevirtual 81, 3) := by decide +kernel
theorem dX4_isOverlapAlike_108 : decode cX4_isOverlapAlike 108 = .ok (.aload_n 0, 1) := by decide +kernel
theorem dX4_isOverlapAlike_109 : decode cX4_isOverlapAlike 109 = .ok (.getfield 46, 3) := by decide +kernel
theorem dX4_isOverlapAlike_112 : decode cX4_isOverlapAlike 112 = .ok (.aload_n 0, 1) := by decide +kernel
theorem dX4_isOverlapAlike_113 : decode cX4_isOverlapAlike 113 = .ok (.getfield 12, 3) := by decide +kernel
theorem dX4_isOverlapAlike_116 : decode cX4_isOverlapAlike 116 = .ok (.iload_n 2, 1) := by decide +kernel
theorem dX4_isOverlapAlike_117 : decode cX4_isOverlapAlike 117 = .ok (.iload_n 3, 1) := by decide +kernel
theorem dX4_isOverlapAlike_118 : decode cX4_isOverlapAlike 118 = .ok (.invokevirtual 85, 3) := by decide +kernel
theorem dX4_isOverlapAlike_121 : decode cX4_isOverlapAlike 121 = .ok (.aload_n 0, 1) := by decide +kernel
theorem dX4_isOverlapAlike_122 : decode cX4_isOverlapAlike 122 = .ok (.getfield 46, 3) := by decide +kernel
theorem dX4_isOverlapAlike_125 : decode cX4_isOverlapAlike 125 = .ok (.aload_n 0, 1) := by decide +kernel
theorem dX4_isOverlapAlike_126 : decode cX4_isOverlapAlike 126 = .ok (.getfield 12, 3) := by decide +kernel
theorem dX4_isOverlapAlike_129 : decode cX4_isOverlapAlike 129 = .ok (.sipush 1000, 3) := by decide +kernel
theorem dX4_isOverlapAlike_132 : decode cX4_isOverlapAlike 132 = .ok (.invokevirtual 89, 3) := by decide +kernel
theorem dX4_isOverlapAlike_135 : decode cX4_isOverlapAlike 135 = .ok (.pop, 1) := by decide +kernel
theorem dX4_isOverlapAlike_136 : decode cX4_isOverlapAlike 136 = .ok (.iconst 0, 1) := by decide +kernel
theorem dX4_isOverlapAlike_137 : decode cX4_isOverlapAlike 137 = .ok (.istore 4, 2) := by decide +kernel
theorem dX4_isOverlapAlike_139 : decode cX4_isOverlapAlike 139 = .ok (.iload 4, 2) := by decide +kernel
theorem dX4_isOverlapAlike_141 : decode cX4_isOverlapAlike 141 = .ok (.bipush 6, 2) := by decide +kernel
theorem dX4_isOverlapAlike_143 : decode cX4_isOverlapAlike 143 = .ok (.if_icmp .ge 31, 3) := by decide +kernel
theorem dX4_isOverlapAlike_146 : decode cX4_isOverlapAlike 146 = .ok (.aload_n 0, 1) := by decide +kernel
theorem dX4_isOverlapAlike_147 : decode cX4_isOverlapAlike 147 = .ok (.getfield 43, 3) := by decide +kernel
theorem dX4_isOverlapAlike_150 : decode cX4_isOverlapAlike 150 = .ok (.iload 4, 2) := by decide +kernel
theorem dX4_isOverlapAlike_152 : decode cX4_isOverlapAlike 152 = .ok (.iaload, 1) := by decide +kernel
theorem dX4_isOverlapAlike_153 : decode cX4_isOverlapAlike 153 = .ok (.aload_n 0, 1) := by decide +kernel
theorem dX4_isOverlapAlike_154 : decode cX4_isOverlapAlike 154 = .ok (.getfield 46, 3) := by decide +kernel
theorem dX4_isOverlapAlike_157 : decode cX4_isOverlapAlike 157 = .ok (.getfield 93, 3) := by decide +kernel
theorem dX4_isOverlapAlike_160 : decode cX4_isOverlapAlike 160 = .ok (.iload 4, 2) := by decide +kernel
theorem dX4_isOverlapAlike_162 : decode cX4_isOverlapAlike 162 = .ok (.iaload, 1) := by decide +kernel
theorem dX4_isOverlapAlike_163 : decode cX4_isOverlapAlike 163 = .ok (.if_icmp .eq 5, 3) := by decide +kernel
theorem dX4_isOverlapAlike_166 : decode cX4_isOverlapAlike 166 = .ok (.iconst 0, 1) := by decide +kernel
theorem dX4_isOverlapAlike_167 : decode cX4_isOverlapAlike 167 = .ok (.ireturn, 1) := by decide +kernel
theorem dX4_isOverlapAlike_168 : decode cX4_isOverlapAlike 168 = .ok (.iinc 4 1, 3) := by decide +kernel
theorem dX4_isOverlapAlike_171 : decode cX4_isOverlapAlike 171 = .ok (.goto (-32), 3) := by decide +kernel
theorem dX4_isOverlapAlike_174 : decode cX4_isOverlapAlike 174 = .ok (.iconst 1, 1) := by decide +kernel
theorem dX4_isOverlapAlike_175 : decode cX4_isOverlapAlike 175 = .ok (.ireturn, 1) := by decide +kernel
theorem dX4_findTerms_0 : decode cX4_findTerms 0 = .ok (.aload_n 0, 1) := by decide +kernel
theorem dX4_findTerms_1 : decode cX4_findTerms 1 = .ok (.getfield 32, 3) := by decide +kernel
theorem dX4_findTerms_4 : decode cX4_findTerms 4 = .ok (.iconst 0, 1) := by decide +kernel
theorem dX4_findTerms_5 : decode cX4_findTerms 5 = .ok (.invokestatic 100, 3) := by decide +kernel
theorem dX4_findTerms_8 : decode cX4_findTerms 8 = .ok (.aload_n 0, 1) := by decide +kernel
theorem dX4_findTerms_9 : decode cX4_findTerms 9 = .ok (.iconst 0, 1) := by decide +kernel
theorem dX4_findTerms_10 : decode cX4_findTerms 10 = .ok (.putfield 36, 3) := by decide +kernel
theorem dX4_findTerms_13 : decode cX4_findTerms 13 = .ok (.iconst 0, 1) := by decide +kernel
theorem dX4_findTerms_14 : decode cX4_findTerms 14 = .ok (.istore_n 1, 1) := by decide +kernel
theorem dX4_findTerms_15 : decode cX4_findTerms 15 = .ok (.iload_n 1, 1) := by decide +kernel
theorem dX4_findTerms_16 : decode cX4_findTerms 16 = .ok (.sipush 455, 3) := by decide +kernel
theorem dX4_findTerms_19 : decode cX4_findTerms 19 = .ok (.if_icmp .ge 20, 3) := by decide +kernel
theorem dX4_findTerms_22 : decode cX4_findTerms 22 = .ok (.aload_n 0, 1) := by decide +kernel
theorem dX4_findTerms_23 : decode cX4_findTerms 23 = .ok (.invokevirtual 106, 3) := by decide +kernel
theorem dX4_findTerms_26 : decode cX4_findTerms 26 = .ok (.ifCond .eq 13, 3) := by decide +kernel
theorem dX4_findTerms_29 : decode cX4_findTerms 29 = .ok (.aload_n 0, 1) := by decide +kernel
theorem dX4_findTerms_30 : decode cX4_findTerms 30 = .ok (.invokevirtual 109, 3) := by decide +kernel
theorem dX4_findTerms_33 : decode cX4_findTerms 33 = .ok (.iinc 1 1, 3) := by decide +kernel
theorem dX4_findTerms_36 : decode cX4_findTerms 36 = .ok (.goto (-21), 3) := by decide +kernel
theorem dX4_findTerms_39 : decode cX4_findTerms 39 = .ok (.return_, 1) := by decide +kernel
theorem dX4_goToNextPoint_0 : decode cX4_goToNextPoint 0 = .ok (.iconst 2, 1) := by decide +kernel
theorem dX4_goToNextPoint_1 : decode cX4_goToNextPoint 1 = .ok (.aload_n 0, 1) := by decide +kernel
theorem dX4_goToNextPoint_2 : decode cX4_goToNextPoint 2 = .ok (.getfield 12, 3) := by decide +kernel
theorem dX4_goToNextPoint_5 : decode cX4_goToNextPoint 5 = .ok (.getfield 71, 3) := by decide +kernel
theorem dX4_goToNextPoint_8 : decode cX4_goToNextPoint 8 = .ok (.imul, 1) := by decide +kernel
theorem dX4_goToNextPoint_9 : decode cX4_goToNextPoint 9 = .ok (.iconst 1, 1) := by decide +kernel
theorem dX4_goToNextPoint_10 : decode cX4_goToNextPoint 10 = .ok (.isub, 1) := by decide +kernel
theorem dX4_goToNextPoint_11 : decode cX4_goToNextPoint 11 = .ok (.istore_n 1, 1) := by decide +kernel
theorem dX4_goToNextPoint_12 : decode cX4_goToNextPoint 12 = .ok (.iload_n 1, 1) := by decide +kernel
theorem dX4_goToNextPoint_13 : decode cX4_goToNextPoint 13 = .ok (.ifCond .lt 140, 3) := by decide +kernel
theorem dX4_goToNextPoint_16 : decode cX4_goToNextPoint 16 = .ok (.iload_n 1, 1) := by decide +kernel
theorem dX4_goToNextPoint_17 : decode cX4_goToNextPoint 17 = .ok (.aload_n 0, 1) := by decide +kernel
theorem dX4_goToNextPoint_18 : decode cX4_goToNextPoint 18 = .ok (.getfield 12, 3) := by decide +kernel
theorem dX4_goToNextPoint_21 : decode cX4_goToNextPoint 21 = .ok (.getfield 71, 3) := by decide +kernel
theorem dX4_goToNextPoint_24 : decode cX4_goToNextPoint 24 = .ok (.if_icmp .ge 7, 3) := by decide +kernel
theorem dX4_goToNextPoint_27 : decode cX4_goToNextPoint 27 = .ok (.iload_n 1, 1) := by decide +kernel
theorem dX4_goToNextPoint_28 : decode cX4_goToNextPoint 28 = .ok (.goto 12, 3) := by decide +kernel
theorem dX4_goToNextPoint_31 : decode cX4_goToNextPoint 31 = .ok (.iload_n 1, 1) := by decide +kernel
theorem dX4_goToNextPoint_32 : decode cX4_goToNextPoint 32 = .ok (.aload_n 0, 1) := by decide +kernel
theorem dX4_goToNextPoint_33 : decode cX4_goToNextPoint 33 = .ok (.getfield 12, 3) := by decide +kernel
theorem dX4_goToNextPoint_36 : decode cX4_goToNextPoint 36 = .ok (.getfield 71, 3) := by decide +kernel
theorem dX4_goToNextPoint_39 : decode cX4_goToNextPoint 39 = .ok (.isub, 1) := by decide +kernel
theorem dX4_goToNextPoint_40 : decode cX4_goToNextPoint 40 = .ok (.istore_n 2, 1) := by decide +kernel
theorem dX4_goToNextPoint_41 : decode cX4_goToNextPoint 41 = .ok (.iload_n 1, 1) := by decide +kernel
theorem dX4_goToNextPoint_42 : decode cX4_goToNextPoint 42 = .ok (.aload_n 0, 1) := by decide +kernel
theorem dX4_goToNextPoint_43 : decode cX4_goToNextPoint 43 = .ok (.getfield 12, 3) := by decide +kernel
theorem dX4_goToNextPoint_46 : decode cX4_goToNextPoint 46 = .ok (.getfield 71, 3) := by decide +kernel
theorem dX4_goToNextPoint_49 : decode cX4_goToNextPoint 49 = .ok (.if_icmp .ge 7, 3) := by decide +kernel
theorem dX4_goToNextPoint_52 : decode cX4_goToNextPoint 52 = .ok (.iload_n 2, 1) := by decide +kernel
theorem dX4_goToNextPoint_53 : decode cX4_goToNextPoint 53 = .ok (.goto 7, 3) := by decide +kernel
theorem dX4_goToNextPoint_56 : decode cX4_goToNextPoint 56 = .ok (.bipush 6, 2) := by decide +kernel
theorem dX4_goToNextPoint_58 : decode cX4_goToNextPoint 58 = .ok (.iload_n 2, 1) := by decide +kernel
theorem dX4_goToNextPoint_59 : decode cX4_goToNextPoint 59 = .ok (.iadd, 1) := by decide +kernel
theorem dX4_goToNextPoint_60 : decode cX4_goToNextPoint 60 = .ok (.istore_n 3, 1) := by decide +kernel
theorem dX4_goToNextPoint_61 : decode cX4_goToNextPoint 61 = .ok (.aload_n 0, 1) := by decide +kernel
theorem dX4_goToNextPoint_62 : decode cX4_goToNextPoint 62 = .ok (.getfield 36, 3) := by decide +kernel
theorem dX4_goToNextPoint_65 : decode cX4_goToNextPoint 65 = .ok (.aload_n 0, 1) := by decide +kernel
theorem dX4_goToNextPoint_66 : decode cX4_goToNextPoint 66 = .ok (.getfield 12, 3) := by decide +kernel
theorem dX4_goToNextPoint_69 : decode cX4_goToNextPoint 69 = .ok (.getfield 112, 3) := by decide +kernel
theorem dX4_goToNextPoint_72 : decode cX4_goToNextPoint 72 = .ok (.iload_n 2, 1) := by decide +kernel
theorem dX4_goToNextPoint_73 : decode cX4_goToNextPoint 73 = .ok (.iaload, 1) := by decide +kernel
theorem dX4_goToNextPoint_74 : decode cX4_goToNextPoint 74 = .ok (.iadd, 1) := by decide +kernel
theorem dX4_goToNextPoint_75 : decode cX4_goToNextPoint 75 = .ok (.aload_n 0, 1) := by decide +kernel
theorem dX4_goToNextPoint_76 : decode cX4_goToNextPoint 76 = .ok (.getfield 12, 3) := by decide +kernel
theorem dX4_goToNextPoint_79 : decode cX4_goToNextPoint 79 = .ok (.invokevirtual 115, 3) := by decide +kernel
theorem dX4_goToNextPoint_82 : decode cX4_goToNextPoint 82 = .ok (.if_icmp .gt 33, 3) := by decide +kernel
theorem dX4_goToNextPoint_85 : decode cX4_goToNextPoint 85 = .ok (.aload_n 0, 1) := by decide +kernel
theorem dX4_goToNextPoint_86 : decode cX4_goToNextPoint 86 = .ok (.getfield 32, 3) := by decide +kernel
theorem dX4_goToNextPoint_89 : decode cX4_goToNextPoint 89 = .ok (.iload_n 3, 1) := by decide +kernel
theorem dX4_goToNextPoint_90 : decode cX4_goToNextPoint 90 = .ok (.dup2, 1) := by decide +kernel
theorem dX4_goToNextPoint_91 : decode cX4_goToNextPoint 91 = .ok (.iaload, 1) := by decide +kernel
theorem dX4_goToNextPoint_92 : decode cX4_goToNextPoint 92 = .ok (.iconst 1, 1) := by decide +kernel
theorem dX4_goToNextPoint_93 : decode cX4_goToNextPoint 93 = .ok (.iadd, 1) := by decide +kernel
theorem dX4_goToNextPoint_94 : decode cX4_goToNextPoint 94 = .ok (.iastore, 1) := by decide +kernel
theorem dX4_goToNextPoint_95 : decode cX4_goToNextPoint 95 = .ok (.aload_n 0, 1) := by decide +kernel
theorem dX4_goToNextPoint_96 : decode cX4_goToNextPoint 96 = .ok (.dup, 1) := by decide +kernel
theorem dX4_goToNextPoint_97 : decode cX4_goToNextPoint 97 = .ok (.getfield 36, 3) := by decide +kernel
theorem dX4_goToNextPoint_100 : decode cX4_goToNextPoint 100 = .ok (.aload_n 0, 1) := by decide +kernel
theorem dX4_goToNextPoint_101 : decode cX4_goToNextPoint 101 = .ok (.getfield 12, 3) := by decide +kernel
theorem dX4_goToNextPoint_104 : decode cX4_goToNextPoint 104 = .ok (.getfield 112, 3) := by decide +kernel
theorem dX4_goToNextPoint_107 : decode cX4_goToNextPoint 107 = .ok (.iload_n 2, 1) := by decide +kernel
theorem dX4_goToNextPoint_108 : decode cX4_goToNextPoint 108 = .ok (.iaload, 1) := by decide +kernel
theorem dX4_goToNextPoint_109 : decode cX4_goToNextPoint 109 = .ok (.iadd, 1) := by decide +kernel
theorem dX4_goToNextPoint_110 : decode cX4_goToNextPoint 110 = .ok (.putfield 36, 3) := by decide +kernel
theorem dX4_goToNextPoint_113 : decode cX4_goToNextPoint 113 = .ok (.iconst 1, 1) := by decide +kernel
theorem dX4_goToNextPoint_114 : decode cX4_goToNextPoint 114 = .ok (.ireturn, 1) := by decide +kernel
theorem dX4_goToNextPoint_115 : decode cX4_goToNextPoint 115 = .ok (.aload_n 0, 1) := by decide +kernel
theorem dX4_goToNextPoint_116 : decode cX4_goToNextPoint 116 = .ok (.dup, 1) := by decide +kernel
theorem dX4_goToNextPoint_117 : decode cX4_goToNextPoint 117 = .ok (.getfield 36, 3) := by decide +kernel
theorem dX4_goToNextPoint_120 : decode cX4_goToNextPoint 120 = .ok (.aload_n 0, 1) := by decide +kernel
theorem dX4_goToNextPoint_121 : decode cX4_goToNextPoint 121 = .ok (.getfield 32, 3) := by decide +kernel
theorem dX4_goToNextPoint_124 : decode cX4_goToNextPoint 124 = .ok (.iload_n 3, 1) := by decide +kernel
theorem dX4_goToNextPoint_125 : decode cX4_goToNextPoint 125 = .ok (.iaload, 1) := by decide +kernel
theorem dX4_goToNextPoint_126 : decode cX4_goToNextPoint 126 = .ok (.aload_n 0, 1) := by decide +kernel
theorem dX4_goToNextPoint_127 : decode cX4_goToNextPoint 127 = .ok (.getfield 12, 3) := by decide +kernel
theorem dX4_goToNextPoint_130 : decode cX4_goToNextPoint 130 = .ok (.getfield 112, 3) := by decide +kernel
theorem dX4_goToNextPoint_133 : decode cX4_goToNextPoint 133 = .ok (.iload_n 2, 1) := by decide +kernel
theorem dX4_goToNextPoint_134 : decode cX4_goToNextPoint 134 = .ok (.iaload, 1) := by decide +kernel
theorem dX4_goToNextPoint_135 : decode cX4_goToNextPoint 135 = .ok (.imul, 1) := by decide +kernel
theorem dX4_goToNextPoint_136 : decode cX4_goToNextPoint 136 = .ok (.isub, 1) := by decide +kernel
theorem dX4_goToNextPoint_137 : decode cX4_goToNextPoint 137 = .ok (.putfield 36, 3) := by decide +kernel
theorem dX4_goToNextPoint_140 : decode cX4_goToNextPoint 140 = .ok (.aload_n 0, 1) := by decide +kernel
theorem dX4_goToNextPoint_141 : decode cX4_goToNextPoint 141 = .ok (.getfield 32, 3) := by decide +kernel
theorem dX4_goToNextPoint_144 : decode cX4_goToNextPoint 144 = .ok (.iload_n 3, 1) := by decide +kernel
theorem dX4_goToNextPoint_145 : decode cX4_goToNextPoint 145 = .ok (.iconst 0, 1) := by decide +kernel
theorem dX4_goToNextPoint_146 : decode cX4_goToNextPoint 146 = .ok (.iastore, 1) := by decide +kernel
theorem dX4_goToNextPoint_147 : decode cX4_goToNextPoint 147 = .ok (.iinc 1 (-1), 3) := by decide +kernel
theorem dX4_goToNextPoint_150 : decode cX4_goToNextPoint 150 = .ok (.goto (-138), 3) := by decide +kernel
theorem dX4_goToNextPoint_153 : decode cX4_goToNextPoint 153 = .ok (.iconst 0, 1) := by decide +kernel
theorem dX4_goToNextPoint_154 : decode cX4_goToNextPoint 154 = .ok (.ireturn, 1) := by decide +kernel
theorem dX4_findTermsAtPoint_0 : decode cX4_findTermsAtPoint 0 = .ok (.aload_n 0, 1) := by decide +kernel
theorem dX4_findTermsAtPoint_1 : decode cX4_findTermsAtPoint 1 = .ok (.getfield 46, 3) := by decide +kernel
theorem dX4_findTermsAtPoint_4 : decode cX4_findTermsAtPoint 4 = .ok (.invokevirtual 76, 3) := by decide +kernel
theorem dX4_findTermsAtPoint_7 : decode cX4_findTermsAtPoint 7 = .ok (.iconst 0, 1) := by decide +kernel
theorem dX4_findTermsAtPoint_8 : decode cX4_findTermsAtPoint 8 = .ok (.istore_n 1, 1) := by decide +kernel
theorem dX4_findTermsAtPoint_9 : decode cX4_findTermsAtPoint 9 = .ok (.iconst 0, 1) := by decide +kernel
theorem dX4_findTermsAtPoint_10 : decode cX4_findTermsAtPoint 10 = .ok (.istore_n 2, 1) := by decide +kernel
theorem dX4_findTermsAtPoint_11 : decode cX4_findTermsAtPoint 11 = .ok (.iload_n 2, 1) := by decide +kernel
theorem dX4_findTermsAtPoint_12 : decode cX4_findTermsAtPoint 12 = .ok (.bipush 12, 2) := by decide +kernel
theorem dX4_findTermsAtPoint_14 : decode cX4_findTermsAtPoint 14 = .ok (.if_icmp .ge 66, 3) := by decide +kernel
theorem dX4_findTermsAtPoint_17 : decode cX4_findTermsAtPoint 17 = .ok (.aload_n 0, 1) := by decide +kernel
theorem dX4_findTermsAtPoint_18 : decode cX4_findTermsAtPoint 18 = .ok (.getfield 39, 3) := by decide +kernel
theorem dX4_findTermsAtPoint_21 : decode cX4_findTermsAtPoint 21 = .ok (.iload_n 2, 1) := by decide +kernel
theorem dX4_findTermsAtPoint_22 : decode cX4_findTermsAtPoint 22 = .ok (.aload_n 0, 1) := by decide +kernel
theorem dX4_findTermsAtPoint_23 : decode cX4_findTermsAtPoint 23 = .ok (.getfield 32, 3) := by decide +kernel
theorem dX4_findTermsAtPoint_26 : decode cX4_findTermsAtPoint 26 = .ok (.iload_n 2, 1) := by decide +kernel
theorem dX4_findTermsAtPoint_27 : decode cX4_findTermsAtPoint 27 = .ok (.iaload, 1) := by decide +kernel
theorem dX4_findTermsAtPoint_28 : decode cX4_findTermsAtPoint 28 = .ok (.i2l, 1) := by decide +kernel
theorem dX4_findTermsAtPoint_29 : decode cX4_findTermsAtPoint 29 = .ok (.invokestatic 119, 3) := by decide +kernel
theorem dX4_findTermsAtPoint_32 : decode cX4_findTermsAtPoint 32 = .ok (.iload_n 1, 1) := by decide +kernel
theorem dX4_findTermsAtPoint_33 : decode cX4_findTermsAtPoint 33 = .ok (.iconst 2, 1) := by decide +kernel
theorem dX4_findTermsAtPoint_34 : decode cX4_findTermsAtPoint 34 = .ok (.ishl, 1) := by decide +kernel
theorem dX4_findTermsAtPoint_35 : decode cX4_findTermsAtPoint 35 = .ok (.aload_n 0, 1) := by decide +kernel
theorem dX4_findTermsAtPoint_36 : decode cX4_findTermsAtPoint 36 = .ok (.getfield 32, 3) := by decide +kernel
theorem dX4_findTermsAtPoint_39 : decode cX4_findTermsAtPoint 39 = .ok (.iload_n 2, 1) := by decide +kernel
theorem dX4_findTermsAtPoint_40 : decode cX4_findTermsAtPoint 40 = .ok (.iaload, 1) := by decide +kernel
theorem dX4_findTermsAtPoint_41 : decode cX4_findTermsAtPoint 41 = .ok (.iconst 3, 1) := by decide +kernel
theorem dX4_findTermsAtPoint_42 : decode cX4_findTermsAtPoint 42 = .ok (.iand, 1) := by decide +kernel
theorem dX4_findTermsAtPoint_43 : decode cX4_findTermsAtPoint 43 = .ok (.ior, 1) := by decide +kernel
theorem dX4_findTermsAtPoint_44 : decode cX4_findTermsAtPoint 44 = .ok (.istore_n 1, 1) := by decide +kernel
theorem dX4_findTermsAtPoint_45 : decode cX4_findTermsAtPoint 45 = .ok (.iconst 0, 1) := by decide +kernel
theorem dX4_findTermsAtPoint_46 : decode cX4_findTermsAtPoint 46 = .ok (.istore_n 3, 1) := by decide +kernel
theorem dX4_findTermsAtPoint_47 : decode cX4_findTermsAtPoint 47 = .ok (.iload_n 3, 1) := by decide +kernel
theorem dX4_findTermsAtPoint_48 : decode cX4_findTermsAtPoint 48 = .ok (.aload_n 0, 1) := by decide +kernel
theorem dX4_findTermsAtPoint_49 : decode cX4_findTermsAtPoint 49 = .ok (.getfield 32, 3) := by decide +kernel
theorem dX4_findTermsAtPoint_52 : decode cX4_findTermsAtPoint 52 = .ok (.iload_n 2, 1) := by decide +kernel
theorem dX4_findTermsAtPoint_53 : decode cX4_findTermsAtPoint 53 = .ok (.iaload, 1) := by decide +kernel
theorem dX4_findTermsAtPoint_54 : decode cX4_findTermsAtPoint 54 = .ok (.if_icmp .ge 20, 3) := by decide +kernel
theorem dX4_findTermsAtPoint_57 : decode cX4_findTermsAtPoint 57 = .ok (.aload_n 0, 1) := by decide +kernel
theorem dX4_findTermsAtPoint_58 : decode cX4_findTermsAtPoint 58 = .ok (.getfield 46, 3) := by decide +kernel
theorem dX4_findTermsAtPoint_61 : decode cX4_findTermsAtPoint 61 = .ok (.iload_n 2, 1) := by decide +kernel
theorem dX4_findTermsAtPoint_62 : decode cX4_findTermsAtPoint 62 = .ok (.bipush 6, 2) := by decide +kernel
theorem dX4_findTermsAtPoint_64 : decode cX4_findTermsAtPoint 64 = .ok (.irem, 1) := by decide +kernel
theorem dX4_findTermsAtPoint_65 : decode cX4_findTermsAtPoint 65 = .ok (.invokevirtual 81, 3) := by decide +kernel
theorem dX4_findTermsAtPoint_68 : decode cX4_findTermsAtPoint 68 = .ok (.iinc 3 1, 3) := by decide +kernel
theorem dX4_findTermsAtPoint_71 : decode cX4_findTermsAtPoint 71 = .ok (.goto (-24), 3) := by decide +kernel
theorem dX4_findTermsAtPoint_74 : decode cX4_findTermsAtPoint 74 = .ok (.iinc 2 1, 3) := by decide +kernel
theorem dX4_findTermsAtPoint_77 : decode cX4_findTermsAtPoint 77 = .ok (.goto (-66), 3) := by decide +kernel
theorem dX4_findTermsAtPoint_80 : decode cX4_findTermsAtPoint 80 = .ok (.aload_n 0, 1) := by decide +kernel
theorem dX4_findTermsAtPoint_81 : decode cX4_findTermsAtPoint 81 = .ok (.getfield 46, 3) := by decide +kernel
theorem dX4_findTermsAtPoint_84 : decode cX4_findTermsAtPoint 84 = .ok (.aload_n 0, 1) := by decide +kernel
theorem dX4_findTermsAtPoint_85 : decode cX4_findTermsAtPoint 85 = .ok (.getfield 12, 3) := by decide +kernel
theorem dX4_findTermsAtPoint_88 : decode cX4_findTermsAtPoint 88 = .ok (.sipush 1000, 3) := by decide +kernel
theorem dX4_findTermsAtPoint_91 : decode cX4_findTermsAtPoint 91 = .ok (.invokevirtual 89, 3) := by decide +kernel
theorem dX4_findTermsAtPoint_94 : decode cX4_findTermsAtPoint 94 = .ok (.pop, 1) := by decide +kernel
theorem dX4_findTermsAtPoint_95 : decode cX4_findTermsAtPoint 95 = .ok (.iconst 0, 1) := by decide +kernel
theorem dX4_findTermsAtPoint_96 : decode cX4_findTermsAtPoint 96 = .ok (.istore_n 2, 1) := by decide +kernel
theorem dX4_findTermsAtPoint_97 : decode cX4_findTermsAtPoint 97 = .ok (.iload_n 2, 1) := by decide +kernel
theorem dX4_findTermsAtPoint_98 : decode cX4_findTermsAtPoint 98 = .ok (.aload_n 0, 1) := by decide +kernel
theorem dX4_findTermsAtPoint_99 : decode cX4_findTermsAtPoint 99 = .ok (.getfield 12, 3) := by decide +kernel
theorem dX4_findTermsAtPoint_102 : decode cX4_findTermsAtPoint 102 = .ok (.getfield 71, 3) := by decide +kernel
theorem dX4_findTermsAtPoint_105 : decode cX4_findTermsAtPoint 105 = .ok (.if_icmp .ge 70, 3) := by decide +kernel
theorem dX4_findTermsAtPoint_108 : decode cX4_findTermsAtPoint 108 = .ok (.aload_n 0, 1) := by decide +kernel
theorem dX4_findTermsAtPoint_109 : decode cX4_findTermsAtPoint 109 = .ok (.getfield 12, 3) := by decide +kernel
theorem dX4_findTermsAtPoint_112 : decode cX4_findTermsAtPoint 112 = .ok (.getfield 112, 3) := by decide +kernel
theorem dX4_findTermsAtPoint_115 : decode cX4_findTermsAtPoint 115 = .ok (.iload_n 2, 1) := by decide +kernel
theorem dX4_findTermsAtPoint_116 : decode cX4_findTermsAtPoint 116 = .ok (.iaload, 1) := by decide +kernel
theorem dX4_findTermsAtPoint_117 : decode cX4_findTermsAtPoint 117 = .ok (.aload_n 0, 1) := by decide +kernel
theorem dX4_findTermsAtPoint_118 : decode cX4_findTermsAtPoint 118 = .ok (.getfield 36, 3) := by decide +kernel
theorem dX4_findTermsAtPoint_121 : decode cX4_findTermsAtPoint 121 = .ok (.if_icmp .ge 6, 3) := by decide +kernel
theorem dX4_findTermsAtPoint_124 : decode cX4_findTermsAtPoint 124 = .ok (.goto 45, 3) := by decide +kernel
theorem dX4_findTermsAtPoint_127 : decode cX4_findTermsAtPoint 127 = .ok (.aload_n 0, 1) := by decide +kernel
theorem dX4_findTermsAtPoint_128 : decode cX4_findTermsAtPoint 128 = .ok (.getfield 46, 3) := by decide +kernel
theorem dX4_findTermsAtPoint_131 : decode cX4_findTermsAtPoint 131 = .ok (.getfield 93, 3) := by decide +kernel
theorem dX4_findTermsAtPoint_134 : decode cX4_findTermsAtPoint 134 = .ok (.iload_n 2, 1) := by decide +kernel
theorem dX4_findTermsAtPoint_135 : decode cX4_findTermsAtPoint 135 = .ok (.iaload, 1) := by decide +kernel
theorem dX4_findTermsAtPoint_136 : decode cX4_findTermsAtPoint 136 = .ok (.i2l, 1) := by decide +kernel
theorem dX4_findTermsAtPoint_137 : decode cX4_findTermsAtPoint 137 = .ok (.aload_n 0, 1) := by decide +kernel
theorem dX4_findTermsAtPoint_138 : decode cX4_findTermsAtPoint 138 = .ok (.getfield 20, 3) := by decide +kernel
theorem dX4_findTermsAtPoint_141 : decode cX4_findTermsAtPoint 141 = .ok (.iload_n 2, 1) := by decide +kernel
theorem dX4_findTermsAtPoint_142 : decode cX4_findTermsAtPoint 142 = .ok (.aaload, 1) := by decide +kernel
theorem dX4_findTermsAtPoint_143 : decode cX4_findTermsAtPoint 143 = .ok (.aload_n 0, 1) := by decide +kernel
theorem dX4_findTermsAtPoint_144 : decode cX4_findTermsAtPoint 144 = .ok (.getfield 39, 3) := by decide +kernel
theorem dX4_findTermsAtPoint_147 : decode cX4_findTermsAtPoint 147 = .ok (.invokevirtual 123, 3) := by decide +kernel
theorem dX4_findTermsAtPoint_150 : decode cX4_findTermsAtPoint 150 = .ok (.lsub, 1) := by decide +kernel
theorem dX4_findTermsAtPoint_151 : decode cX4_findTermsAtPoint 151 = .ok (.lstore_n 3, 1) := by decide +kernel
theorem dX4_findTermsAtPoint_152 : decode cX4_findTermsAtPoint 152 = .ok (.lload_n 3, 1) := by decide +kernel
theorem dX4_findTermsAtPoint_153 : decode cX4_findTermsAtPoint 153 = .ok (.lconst 0, 1) := by decide +kernel
theorem dX4_findTermsAtPoint_154 : decode cX4_findTermsAtPoint 154 = .ok (.lcmp, 1) := by decide +kernel
theorem dX4_findTermsAtPoint_155 : decode cX4_findTermsAtPoint 155 = .ok (.ifCond .eq 14, 3) := by decide +kernel
theorem dX4_findTermsAtPoint_158 : decode cX4_findTermsAtPoint 158 = .ok (.aload_n 0, 1) := by decide +kernel
theorem dX4_findTermsAtPoint_159 : decode cX4_findTermsAtPoint 159 = .ok (.getfield 20, 3) := by decide +kernel
theorem dX4_findTermsAtPoint_162 : decode cX4_findTermsAtPoint 162 = .ok (.iload_n 2, 1) := by decide +kernel
theorem dX4_findTermsAtPoint_163 : decode cX4_findTermsAtPoint 163 = .ok (.aaload, 1) := by decide +kernel
theorem dX4_findTermsAtPoint_164 : decode cX4_findTermsAtPoint 164 = .ok (.iload_n 1, 1) := by decide +kernel
theorem dX4_findTermsAtPoint_165 : decode cX4_findTermsAtPoint 165 = .ok (.lload_n 3, 1) := by decide +kernel
theorem dX4_findTermsAtPoint_166 : decode cX4_findTermsAtPoint 166 = .ok (.invokevirtual 127, 3) := by decide +kernel
theorem dX4_findTermsAtPoint_169 : decode cX4_findTermsAtPoint 169 = .ok (.iinc 2 1, 3) := by decide +kernel
theorem dX4_findTermsAtPoint_172 : decode cX4_findTermsAtPoint 172 = .ok (.goto (-75), 3) := by decide +kernel
theorem dX4_findTermsAtPoint_175 : decode cX4_findTermsAtPoint 175 = .ok (.return_, 1) := by decide +kernel
theorem dX5_init_0 : decode cX5_init 0 = .ok (.aload_n 0, 1) := by decide +kernel
theorem dX5_init_1 : decode cX5_init 1 = .ok (.invokespecial 3, 3) := by decide +kernel
theorem dX5_init_4 : decode cX5_init 4 = .ok (.aload_n 0, 1) := by decide +kernel
theorem dX5_init_5 : decode cX5_init 5 = .ok (.iconst 0, 1) := by decide +kernel
theorem dX5_init_6 : decode cX5_init 6 = .ok (.putfield 9, 3) := by decide +kernel
theorem dX5_init_9 : decode cX5_init 9 = .ok (.aload_n 0, 1) := by decide +kernel
theorem dX5_init_10 : decode cX5_init 10 = .ok (.iconst (-1), 1) := by decide +kernel
theorem dX5_init_11 : decode cX5_init 11 = .ok (.putfield 15, 3) := by decide +kernel
theorem dX5_init_14 : decode cX5_init 14 = .ok (.aload_n 0, 1) := by decide +kernel
theorem dX5_init_15 : decode cX5_init 15 = .ok (.bipush 9, 2) := by decide +kernel
theorem dX5_init_17 : decode cX5_init 17 = .ok (.bipush 6, 2) := by decide +kernel
theorem dX5_init_19 : decode cX5_init 19 = .ok (.multianewarray 18 2, 4) := by decide +kernel
theorem dX5_init_23 : decode cX5_init 23 = .ok (.putfield 20, 3) := by decide +kernel
theorem dX5_init_26 : decode cX5_init 26 = .ok (.aload_n 0, 1) := by decide +kernel
theorem dX5_init_27 : decode cX5_init 27 = .ok (.bipush 9, 2) := by decide +kernel
theorem dX5_init_29 : decode cX5_init 29 = .ok (.bipush 6, 2) := by decide +kernel
theorem dX5_init_31 : decode cX5_init 31 = .ok (.multianewarray 18 2, 4) := by decide +kernel
theorem dX5_init_35 : decode cX5_init 35 = .ok (.putfield 23, 3) := by decide +kernel
theorem dX5_init_38 : decode cX5_init 38 = .ok (.aload_n 0, 1) := by decide +kernel
theorem dX5_init_39 : decode cX5_init 39 = .ok (.bipush 9, 2) := by decide +kernel
theorem dX5_init_41 : decode cX5_init 41 = .ok (.bipush 6, 2) := by decide +kernel
theorem dX5_init_43 : decode cX5_init 43 = .ok (.multianewarray 18 2, 4) := by decide +kernel
theorem dX5_init_47 : decode cX5_init 47 = .ok (.putfield 26, 3) := by decide +kernel
theorem dX5_init_50 : decode cX5_init 50 = .ok (.aload_n 0, 1) := by decide +kernel
theorem dX5_init_51 : decode cX5_init 51 = .ok (.sipush 200, 3) := by decide +kernel
theorem dX5_init_54 : decode cX5_init 54 = .ok (.newarray .int, 2) := by decide +kernel
theorem dX5_init_56 : decode cX5_init 56 = .ok (.putfield 29, 3) := by decide +kernel
theorem dX5_init_59 : decode cX5_init 59 = .ok (.aload_n 0, 1) := by decide +kernel
theorem dX5_init_60 : decode cX5_init 60 = .ok (.iconst 0, 1) := by decide +kernel
theorem dX5_init_61 : decode cX5_init 61 = .ok (.putfield 33, 3) := by decide +kernel
theorem dX5_init_64 : decode cX5_init 64 = .ok (.aload_n 0, 1) := by decide +kernel
theorem dX5_init_65 : decode cX5_init 65 = .ok (.iconst 0, 1) := by decide +kernel
theorem dX5_init_66 : decode cX5_init 66 = .ok (.putfield 36, 3) := by decide +kernel
theorem dX5_init_69 : decode cX5_init 69 = .ok (.aload_n 0, 1) := by decide +kernel
theorem dX5_init_70 : decode cX5_init 70 = .ok (.iconst 0, 1) := by decide +kernel
theorem dX5_init_71 : decode cX5_init 71 = .ok (.putfield 39, 3) := by decide +kernel
theorem dX5_init_74 : decode cX5_init 74 = .ok (.aload_n 0, 1) := by decide +kernel
theorem dX5_init_75 : decode cX5_init 75 = .ok (.aload_n 1, 1) := by decide +kernel
theorem dX5_init_76 : decode cX5_init 76 = .ok (.putfield 42, 3) := by decide +kernel
theorem dX5_init_79 : decode cX5_init 79 = .ok (.aload_n 0, 1) := by decide +kernel
theorem dX5_init_80 : decode cX5_init 80 = .ok (.aload_n 2, 1) := by decide +kernel
theorem dX5_init_81 : decode cX5_init 81 = .ok (.putfield 46, 3) := by decide +kernel
theorem dX5_init_84 : decode cX5_init 84 = .ok (.return_, 1) := by decide +kernel
theorem dX5_forget_0 : decode cX5_forget 0 = .ok (.aload_n 0, 1) := by decide +kernel
theorem dX5_forget_1 : decode cX5_forget 1 = .ok (.iconst 0, 1) := by decide +kernel
theorem dX5_forget_2 : decode cX5_forget 2 = .ok (.putfield 9, 3) := by decide +kernel
theorem dX5_forget_5 : decode cX5_forget 5 = .ok (.aload_n 0, 1) := by decide +kernel
theorem dX5_forget_6 : decode cX5_forget 6 = .ok (.iconst (-1), 1) := by decide +kernel
theorem dX5_forget_7 : decode cX5_forget 7 = .ok (.putfield 15, 3) := by decide +kernel
theorem dX5_forget_10 : decode cX5_forget 10 = .ok (.return_, 1) := by decide +kernel
theorem dX5_read_0 : decode cX5_read 0 = .ok (.aload_n 0, 1) := by decide +kernel
theorem dX5_read_1 : decode cX5_read 1 = .ok (.iconst 0, 1) := by decide +kernel
theorem dX5_read_2 : decode cX5_read 2 = .ok (.iload_n 2, 1) := by decide +kernel
theorem dX5_read_3 : decode cX5_read 3 = .ok (.aload_n 1, 1) := by decide +kernel
theorem dX5_read_4 : decode cX5_read 4 = .ok (.arraylength, 1) := by decide +kernel
theorem dX5_read_5 : decode cX5_read 5 = .ok (.sipush 200, 3) := by decide +kernel
theorem dX5_read_8 : decode cX5_read 8 = .ok (.invokestatic 50, 3) := by decide +kernel
theorem dX5_read_11 : decode cX5_read 11 = .ok (.invokestatic 50, 3) := by decide +kernel
theorem dX5_read_14 : decode cX5_read 14 = .ok (.invokestatic 56, 3) := by decide +kernel
theorem dX5_read_17 : decode cX5_read 17 = .ok (.putfield 33, 3) := by decide +kernel
theorem dX5_read_20 : decode cX5_read 20 = .ok (.aload_n 1, 1) := by decide +kernel
theorem dX5_read_21 : decode cX5_read 21 = .ok (.iconst 0, 1) := by decide +kernel
theorem dX5_read_22 : decode cX5_read 22 = .ok (.aload_n 0, 1) := by decide +kernel
theorem dX5_read_23 : decode cX5_read 23 = .ok (.getfield 29, 3) := by decide +kernel
theorem dX5_read_26 : decode cX5_read 26 = .ok (.iconst 0, 1) := by decide +kernel
theorem dX5_read_27 : decode cX5_read 27 = .ok (.aload_n 0, 1) := by decide +kernel
theorem dX5_read_28 : decode cX5_read 28 = .ok (.getfield 33, 3) := by decide +kernel
theorem dX5_read_31 : decode cX5_read 31 = .ok (.invokestatic 59, 3) := by decide +kernel
theorem dX5_read_34 : decode cX5_read 34 = .ok (.aload_n 0, 1) := by decide +kernel
theorem dX5_read_35 : decode cX5_read 35 = .ok (.iconst 0, 1) := by decide +kernel
theorem dX5_read_36 : decode cX5_read 36 = .ok (.putfield 36, 3) := by decide +kernel
theorem dX5_read_39 : decode cX5_read 39 = .ok (.aload_n 0, 1) := by decide +kernel
theorem dX5_read_40 : decode cX5_read 40 = .ok (.iconst 0, 1) := by decide +kernel
theorem dX5_read_41 : decode cX5_read 41 = .ok (.putfield 39, 3) := by decide +kernel
theorem dX5_read_44 : decode cX5_read 44 = .ok (.aload_n 0, 1) := by decide +kernel
theorem dX5_read_45 : decode cX5_read 45 = .ok (.iconst 0, 1) := by decide +kernel
theorem dX5_read_46 : decode cX5_read 46 = .ok (.invokevirtual 65, 3) := by decide +kernel
theorem dX5_read_49 : decode cX5_read 49 = .ok (.ifCond .ne 5, 3) := by decide +kernel
theorem dX5_read_52 : decode cX5_read 52 = .ok (.iconst 0, 1) := by decide +kernel
theorem dX5_read_53 : decode cX5_read 53 = .ok (.ireturn, 1) := by decide +kernel
theorem dX5_read_54 : decode cX5_read 54 = .ok (.aload_n 0, 1) := by decide +kernel
theorem dX5_read_55 : decode cX5_read 55 = .ok (.getfield 36, 3) := by decide +kernel
theorem dX5_read_58 : decode cX5_read 58 = .ok (.aload_n 0, 1) := by decide +kernel
theorem dX5_read_59 : decode cX5_read 59 = .ok (.getfield 33, 3) := by decide +kernel
theorem dX5_read_62 : decode cX5_read 62 = .ok (.if_icmp .ge 15, 3) := by decide +kernel
theorem dX5_read_65 : decode cX5_read 65 = .ok (.aload_n 0, 1) := by decide +kernel
theorem dX5_read_66 : decode cX5_read 66 = .ok (.iconst 1, 1) := by decide +kernel
theorem dX5_read_67 : decode cX5_read 67 = .ok (.aload_n 0, 1) := by decide +kernel
theorem dX5_read_68 : decode cX5_read 68 = .ok (.getfield 36, 3) := by decide +kernel
theorem dX5_read_71 : decode cX5_read 71 = .ok (.invokevirtual 69, 3) := by decide +kernel
theorem dX5_read_74 : decode cX5_read 74 = .ok (.ifCond .eq 7, 3) := by decide +kernel
theorem dX5_read_77 : decode cX5_read 77 = .ok (.iconst 1, 1) := by decide +kernel
theorem dX5_read_78 : decode cX5_read 78 = .ok (.goto 4, 3) := by decide +kernel
theorem dX5_read_81 : decode cX5_read 81 = .ok (.iconst 0, 1) := by decide +kernel
theorem dX5_read_82 : decode cX5_read 82 = .ok (.ireturn, 1) := by decide +kernel
theorem dX5_fail_0 : decode cX5_fail 0 = .ok (.aload_n 0, 1) := by decide +kernel
theorem dX5_fail_1 : decode cX5_fail 1 = .ok (.iload_n 1, 1) := by decide +kernel
theorem dX5_fail_2 : decode cX5_fail 2 = .ok (.putfield 9, 3) := by decide +kernel
theorem dX5_fail_5 : decode cX5_fail 5 = .ok (.aload_n 0, 1) := by decide +kernel
theorem dX5_fail_6 : decode cX5_fail 6 = .ok (.iload_n 2, 1) := by decide +kernel
theorem dX5_fail_7 : decode cX5_fail 7 = .ok (.putfield 15, 3) := by decide +kernel
theorem dX5_fail_10 : decode cX5_fail 10 = .ok (.iconst 0, 1) := by decide +kernel
theorem dX5_fail_11 : decode cX5_fail 11 = .ok (.ireturn, 1) := by decide +kernel
theorem dX5_signHere_0 : decode cX5_signHere 0 = .ok (.aload_n 0, 1) := by decide +kernel
theorem dX5_signHere_1 : decode cX5_signHere 1 = .ok (.getfield 36, 3) := by decide +kernel
theorem dX5_signHere_4 : decode cX5_signHere 4 = .ok (.ifCond .lt 26, 3) := by decide +kernel
theorem dX5_signHere_7 : decode cX5_signHere 7 = .ok (.aload_n 0, 1) := by decide +kernel
theorem dX5_signHere_8 : decode cX5_signHere 8 = .ok (.getfield 36, 3) := by decide +kernel
theorem dX5_signHere_11 : decode cX5_signHere 11 = .ok (.aload_n 0, 1) := by decide +kernel
theorem dX5_signHere_12 : decode cX5_signHere 12 = .ok (.getfield 33, 3) := by decide +kernel
theorem dX5_signHere_15 : decode cX5_signHere 15 = .ok (.if_icmp .ge 15, 3) := by decide +kernel
theorem dX5_signHere_18 : decode cX5_signHere 18 = .ok (.aload_n 0, 1) := by decide +kernel
theorem dX5_signHere_19 : decode cX5_signHere 19 = .ok (.getfield 29, 3) := by decide +kernel
theorem dX5_signHere_22 : decode cX5_signHere 22 = .ok (.aload_n 0, 1) := by decide +kernel
theorem dX5_signHere_23 : decode cX5_signHere 23 = .ok (.getfield 36, 3) := by decide +kernel
theorem dX5_signHere_26 : decode cX5_signHere 26 = .ok (.iaload, 1) := by decide +kernel
theorem dX5_signHere_27 : decode cX5_signHere 27 = .ok (.goto 4, 3) := by decide +kernel
theorem dX5_signHere_30 : decode cX5_signHere 30 = .ok (.iconst (-1), 1) := by decide +kernel
theorem dX5_signHere_31 : decode cX5_signHere 31 = .ok (.ireturn, 1) := by decide +kernel
theorem dX5_skipBlanks_0 : decode cX5_skipBlanks 0 = .ok (.iconst 0, 1) := by decide +kernel
theorem dX5_skipBlanks_1 : decode cX5_skipBlanks 1 = .ok (.istore_n 1, 1) := by decide +kernel
theorem dX5_skipBlanks_2 : decode cX5_skipBlanks 2 = .ok (.iload_n 1, 1) := by decide +kernel
theorem dX5_skipBlanks_3 : decode cX5_skipBlanks 3 = .ok (.sipush 200, 3) := by decide +kernel
theorem dX5_skipBlanks_6 : decode cX5_skipBlanks 6 = .ok (.if_icmp .ge 28, 3) := by decide +kernel
theorem dX5_skipBlanks_9 : decode cX5_skipBlanks 9 = .ok (.aload_n 0, 1) := by decide +kernel
theorem dX5_skipBlanks_10 : decode cX5_skipBlanks 10 = .ok (.invokevirtual 73, 3) := by decide +kernel
theorem dX5_skipBlanks_13 : decode cX5_skipBlanks 13 = .ok (.bipush 32, 2) := by decide +kernel
theorem dX5_skipBlanks_15 : decode cX5_skipBlanks 15 = .ok (.if_icmp .ne 19, 3) := by decide +kernel
theorem dX5_skipBlanks_18 : decode cX5_skipBlanks 18 = .ok (.aload_n 0, 1) := by decide +kernel
theorem dX5_skipBlanks_19 : decode cX5_skipBlanks 19 = .ok (.dup, 1) := by decide +kernel
theorem dX5_skipBlanks_20 : decode cX5_skipBlanks 20 = .ok (.getfield 36, 3) := by decide +kernel
theorem dX5_skipBlanks_23 : decode cX5_skipBlanks 23 = .ok (.iconst 1, 1) := by decide +kernel
theorem dX5_skipBlanks_24 : decode cX5_skipBlanks 24 = .ok (.iadd, 1) := by decide +kernel
theorem dX5_skipBlanks_25 : decode cX5_skipBlanks 25 = .ok (.putfield 36, 3) := by decide +kernel
theorem dX5_skipBlanks_28 : decode cX5_skipBlanks 28 = .ok (.iinc 1 1, 3) := by decide +kernel
theorem dX5_skipBlanks_31 : decode cX5_skipBlanks 31 = .ok (.goto (-29), 3) := by decide +kernel
theorem dX5_skipBlanks_34 : decode cX5_skipBlanks 34 = .ok (.aload_n 0, 1) := by decide +kernel
theorem dX5_skipBlanks_35 : decode cX5_skipBlanks 35 = .ok (.invokevirtual 73, 3) := by decide +kernel
theorem dX5_skipBlanks_38 : decode cX5_skipBlanks 38 = .ok (.ireturn, 1) := by decide +kernel
theorem dX5_isDigit_0 : decode cX5_isDigit 0 = .ok (.iload_n 0, 1) := by decide +kernel
theorem dX5_isDigit_1 : decode cX5_isDigit 1 = .ok (.bipush 48, 2) := by decide +kernel
theorem dX5_isDigit_3 : decode cX5_isDigit 3 = .ok (.if_icmp .lt 13, 3) := by decide +kernel
theorem dX5_isDigit_6 : decode cX5_isDigit 6 = .ok (.iload_n 0, 1) := by decide +kernel
theorem dX5_isDigit_7 : decode cX5_isDigit 7 = .ok (.bipush 57, 2) := by decide +kernel
theorem dX5_isDigit_9 : decode cX5_isDigit 9 = .ok (.if_icmp .gt 7, 3) := by decide +kernel
theorem dX5_isDigit_12 : decode cX5_isDigit 12 = .ok (.iconst 1, 1) := by decide +kernel
theorem dX5_isDigit_13 : decode cX5_isDigit 13 = .ok (.goto 4, 3) := by decide +kernel
theorem dX5_isDigit_16 : decode cX5_isDigit 16 = .ok (.iconst 0, 1) := by decide +kernel
theorem dX5_isDigit_17 : decode cX5_isDigit 17 = .ok (.ireturn, 1) := by decide +kernel
theorem dX5_beginsFactor_0 : decode cX5_beginsFactor 0 = .ok (.iload_n 0, 1) := by decide +kernel
theorem dX5_beginsFactor_1 : decode cX5_beginsFactor 1 = .ok (.bipush 97, 2) := by decide +kernel
theorem dX5_beginsFactor_3 : decode cX5_beginsFactor 3 = .ok (.if_icmp .lt 9, 3) := by decide +kernel
theorem dX5_beginsFactor_6 : decode cX5_beginsFactor 6 = .ok (.iload_n 0, 1) := by decide +kernel
theorem dX5_beginsFactor_7 : decode cX5_beginsFactor 7 = .ok (.bipush 102, 2) := by decide +kernel
theorem dX5_beginsFactor_9 : decode cX5_beginsFactor 9 = .ok (.if_icmp .le 21, 3) := by decide +kernel
theorem dX5_beginsFactor_12 : decode cX5_beginsFactor 12 = .ok (.iload_n 0, 1) := by decide +kernel
theorem dX5_beginsFactor_13 : decode cX5_beginsFactor 13 = .ok (.bipush 82, 2) := by decide +kernel
theorem dX5_beginsFactor_15 : decode cX5_beginsFactor 15 = .ok (.if_icmp .eq 15, 3) := by decide +kernel
theorem dX5_beginsFactor_18 : decode cX5_beginsFactor 18 = .ok (.iload_n 0, 1) := by decide +kernel
theorem dX5_beginsFactor_19 : decode cX5_beginsFactor 19 = .ok (.bipush 40, 2) := by decide +kernel
theorem dX5_beginsFactor_21 : decode cX5_beginsFactor 21 = .ok (.if_icmp .eq 9, 3) := by decide +kernel
theorem dX5_beginsFactor_24 : decode cX5_beginsFactor 24 = .ok (.iload_n 0, 1) := by decide +kernel
theorem dX5_beginsFactor_25 : decode cX5_beginsFactor 25 = .ok (.bipush 91, 2) := by decide +kernel
theorem dX5_beginsFactor_27 : decode cX5_beginsFactor 27 = .ok (.if_icmp .ne 7, 3) := by decide +kernel
theorem dX5_beginsFactor_30 : decode cX5_beginsFactor 30 = .ok (.iconst 1, 1) := by decide +kernel
theorem dX5_beginsFactor_31 : decode cX5_beginsFactor 31 = .ok (.goto 4, 3) := by decide +kernel
theorem dX5_beginsFactor_34 : decode cX5_beginsFactor 34 = .ok (.iconst 0, 1) := by decide +kernel
theorem dX5_beginsFactor_35 : decode cX5_beginsFactor 35 = .ok (.ireturn, 1) := by decide +kernel
theorem dX5_readWord_0 : decode cX5_readWord 0 = .ok (.iload_n 1, 1) := by decide +kernel
theorem dX5_readWord_1 : decode cX5_readWord 1 = .ok (.ifCond .lt 9, 3) := by decide +kernel
theorem dX5_readWord_4 : decode cX5_readWord 4 = .ok (.iload_n 1, 1) := by decide +kernel
theorem dX5_readWord_5 : decode cX5_readWord 5 = .ok (.bipush 8, 2) := by decide +kernel
theorem dX5_readWord_7 : decode cX5_readWord 7 = .ok (.if_icmp .le 5, 3) := by decide +kernel
theorem dX5_readWord_10 : decode cX5_readWord 10 = .ok (.iconst 0, 1) := by decide +kernel
theorem dX5_readWord_11 : decode cX5_readWord 11 = .ok (.ireturn, 1) := by decide +kernel
theorem dX5_readWord_12 : decode cX5_readWord 12 = .ok (.aload_n 0, 1) := by decide +kernel
theorem dX5_readWord_13 : decode cX5_readWord 13 = .ok (.getfield 20, 3) := by decide +kernel
theorem dX5_readWord_16 : decode cX5_readWord 16 = .ok (.iload_n 1, 1) := by decide +kernel
theorem dX5_readWord_17 : decode cX5_readWord 17 = .ok (.aaload, 1) := by decide +kernel
theorem dX5_readWord_18 : decode cX5_readWord 18 = .ok (.astore_n 2, 1) := by decide +kernel
theorem dX5_readWord_19 : decode cX5_readWord 19 = .ok (.aload_n 2, 1) := by decide +kernel
theorem dX5_readWord_20 : decode cX5_readWord 20 = .ok (.lconst 0, 1) := by decide +kernel
theorem dX5_readWord_21 : decode cX5_readWord 21 = .ok (.invokestatic 77, 3) := by decide +kernel
theorem dX5_readWord_24 : decode cX5_readWord 24 = .ok (.iconst 0, 1) := by decide +kernel
theorem dX5_readWord_25 : decode cX5_readWord 25 = .ok (.istore_n 3, 1) := by decide +kernel
theorem dX5_readWord_26 : decode cX5_readWord 26 = .ok (.iload_n 3, 1) := by decide +kernel
theorem dX5_readWord_27 : decode cX5_readWord 27 = .ok (.sipush 200, 3) := by decide +kernel
theorem dX5_readWord_30 : decode cX5_readWord 30 = .ok (.if_icmp .ge 77, 3) := by decide +kernel
theorem dX5_readWord_33 : decode cX5_readWord 33 = .ok (.aload_n 0, 1) := by decide +kernel
theorem dX5_readWord_34 : decode cX5_readWord 34 = .ok (.invokevirtual 83, 3) := by decide +kernel
theorem dX5_readWord_37 : decode cX5_readWord 37 = .ok (.invokestatic 86, 3) := by decide +kernel
theorem dX5_readWord_40 : decode cX5_readWord 40 = .ok (.ifCond .eq 67, 3) := by decide +kernel
theorem dX5_readWord_43 : decode cX5_readWord 43 = .ok (.aload_n 0, 1) := by decide +kernel
theorem dX5_readWord_44 : decode cX5_readWord 44 = .ok (.iload_n 1, 1) := by decide +kernel
theorem dX5_readWord_45 : decode cX5_readWord 45 = .ok (.invokevirtual 89, 3) := by decide +kernel
theorem dX5_readWord_48 : decode cX5_readWord 48 = .ok (.ifCond .eq 16, 3) := by decide +kernel
theorem dX5_readWord_51 : decode cX5_readWord 51 = .ok (.aload_n 0, 1) := by decide +kernel
theorem dX5_readWord_52 : decode cX5_readWord 52 = .ok (.aload_n 0, 1) := by decide +kernel
theorem dX5_readWord_53 : decode cX5_readWord 53 = .ok (.getfield 23, 3) := by decide +kernel
theorem dX5_readWord_56 : decode cX5_readWord 56 = .ok (.iload_n 1, 1) := by decide +kernel
theorem dX5_readWord_57 : decode cX5_readWord 57 = .ok (.aaload, 1) := by decide +kernel
theorem dX5_readWord_58 : decode cX5_readWord 58 = .ok (.invokevirtual 92, 3) := by decide +kernel
theorem dX5_readWord_61 : decode cX5_readWord 61 = .ok (.ifCond .ne 5, 3) := by decide +kernel
theorem dX5_readWord_64 : decode cX5_readWord 64 = .ok (.iconst 0, 1) := by decide +kernel
theorem dX5_readWord_65 : decode cX5_readWord 65 = .ok (.ireturn, 1) := by decide +kernel
theorem dX5_readWord_66 : decode cX5_readWord 66 = .ok (.aload_n 0, 1) := by decide +kernel
theorem dX5_readWord_67 : decode cX5_readWord 67 = .ok (.getfield 46, 3) := by decide +kernel
theorem dX5_readWord_70 : decode cX5_readWord 70 = .ok (.aload_n 2, 1) := by decide +kernel
theorem dX5_readWord_71 : decode cX5_readWord 71 = .ok (.aload_n 2, 1) := by decide +kernel
theorem dX5_readWord_72 : decode cX5_readWord 72 = .ok (.aload_n 0, 1) := by decide +kernel
theorem dX5_readWord_73 : decode cX5_readWord 73 = .ok (.getfield 23, 3) := by decide +kernel
theorem dX5_readWord_76 : decode cX5_readWord 76 = .ok (.iload_n 1, 1) := by decide +kernel
theorem dX5_readWord_77 : decode cX5_readWord 77 = .ok (.aaload, 1) := by decide +kernel
theorem dX5_readWord_78 : decode cX5_readWord 78 = .ok (.invokevirtual 96, 3) := by decide +kernel
theorem dX5_readWord_81 : decode cX5_readWord 81 = .ok (.aload_n 2, 1) := by decide +kernel
theorem dX5_readWord_82 : decode cX5_readWord 82 = .ok (.ldc2_w 102, 3) := by decide +kernel
theorem dX5_readWord_85 : decode cX5_readWord 85 = .ok (.invokestatic 104, 3) := by decide +kernel
theorem dX5_readWord_88 : decode cX5_readWord 88 = .ok (.ifCond .ne 13, 3) := by decide +kernel
theorem dX5_readWord_91 : decode cX5_readWord 91 = .ok (.aload_n 0, 1) := by decide +kernel
theorem dX5_readWord_92 : decode cX5_readWord 92 = .ok (.iconst 5, 1) := by decide +kernel
theorem dX5_readWord_93 : decode cX5_readWord 93 = .ok (.aload_n 0, 1) := by decide +kernel
theorem dX5_readWord_94 : decode cX5_readWord 94 = .ok (.getfield 39, 3) := by decide +kernel
theorem dX5_readWord_97 : decode cX5_readWord 97 = .ok (.invokevirtual 69, 3) := by decide +kernel
theorem dX5_readWord_100 : decode cX5_readWord 100 = .ok (.ireturn, 1) := by decide +kernel
theorem dX5_readWord_101 : decode cX5_readWord 101 = .ok (.iinc 3 1, 3) := by decide +kernel
theorem dX5_readWord_104 : decode cX5_readWord 104 = .ok (.goto (-78), 3) := by decide +kernel
theorem dX5_readWord_107 : decode cX5_readWord 107 = .ok (.iconst 1, 1) := by decide +kernel
theorem dX5_readWord_108 : decode cX5_readWord 108 = .ok (.ireturn, 1) := by decide +kernel
theorem dX5_readFactor_0 : decode cX5_readFactor 0 = .ok (.aload_n 0, 1) := by decide +kernel
theorem dX5_readFactor_1 : decode cX5_readFactor 1 = .ok (.invokevirtual 73, 3) := by decide +kernel
theorem dX5_readFactor_4 : decode cX5_readFactor 4 = .ok (.istore_n 2, 1) := by decide +kernel
theorem dX5_readFactor_5 : decode cX5_readFactor 5 = .ok (.iload_n 2, 1) := by decide +kernel
theorem dX5_readFactor_6 : decode cX5_readFactor 6 = .ok (.bipush 82, 2) := by decide +kernel
theorem dX5_readFactor_8 : decode cX5_readFactor 8 = .ok (.if_icmp .ne 14, 3) := by decide +kernel
theorem dX5_readFactor_11 : decode cX5_readFactor 11 = .ok (.aload_n 0, 1) := by decide +kernel
theorem dX5_readFactor_12 : decode cX5_readFactor 12 = .ok (.aload_n 0, 1) := by decide +kernel
theorem dX5_readFactor_13 : decode cX5_readFactor 13 = .ok (.getfield 23, 3) := by decide +kernel
theorem dX5_readFactor_16 : decode cX5_readFactor 16 = .ok (.iload_n 1, 1) := by decide +kernel
theorem dX5_readFactor_17 : decode cX5_readFactor 17 = .ok (.aaload, 1) := by decide +kernel
theorem dX5_readFactor_18 : decode cX5_readFactor 18 = .ok (.invokevirtual 108, 3) := by decide +kernel
theorem dX5_readFactor_21 : decode cX5_readFactor 21 = .ok (.ireturn, 1) := by decide +kernel
theorem dX5_readFactor_22 : decode cX5_readFactor 22 = .ok (.iload_n 2, 1) := by decide +kernel
theorem dX5_readFactor_23 : decode cX5_readFactor 23 = .ok (.bipush 40, 2) := by decide +kernel
theorem dX5_readFactor_25 : decode cX5_readFactor 25 = .ok (.if_icmp .eq 24, 3) := by decide +kernel
theorem dX5_readFactor_28 : decode cX5_readFactor 28 = .ok (.iload_n 2, 1) := by decide +kernel
theorem dX5_readFactor_29 : decode cX5_readFactor 29 = .ok (.bipush 91, 2) := by decide +kernel
theorem dX5_readFactor_31 : decode cX5_readFactor 31 = .ok (.if_icmp .eq 18, 3) := by decide +kernel
theorem dX5_readFactor_34 : decode cX5_readFactor 34 = .ok (.aload_n 0, 1) := by decide +kernel
theorem dX5_readFactor_35 : decode cX5_readFactor 35 = .ok (.iload_n 2, 1) := by decide +kernel
theorem dX5_readFactor_36 : decode cX5_readFactor 36 = .ok (.bipush 97, 2) := by decide +kernel
theorem dX5_readFactor_38 : decode cX5_readFactor 38 = .ok (.isub, 1) := by decide +kernel
theorem dX5_readFactor_39 : decode cX5_readFactor 39 = .ok (.aload_n 0, 1) := by decide +kernel
theorem dX5_readFactor_40 : decode cX5_readFactor 40 = .ok (.getfield 23, 3) := by decide +kernel
theorem dX5_readFactor_43 : decode cX5_readFactor 43 = .ok (.iload_n 1, 1) := by decide +kernel
theorem dX5_readFactor_44 : decode cX5_readFactor 44 = .ok (.aaload, 1) := by decide +kernel
theorem dX5_readFactor_45 : decode cX5_readFactor 45 = .ok (.invokevirtual 111, 3) := by decide +kernel
theorem dX5_readFactor_48 : decode cX5_readFactor 48 = .ok (.ireturn, 1) := by decide +kernel
theorem dX5_readFactor_49 : decode cX5_readFactor 49 = .ok (.iload_n 1, 1) := by decide +kernel
theorem dX5_readFactor_50 : decode cX5_readFactor 50 = .ok (.bipush 8, 2) := by decide +kernel
theorem dX5_readFactor_52 : decode cX5_readFactor 52 = .ok (.if_icmp .lt 13, 3) := by decide +kernel
theorem dX5_readFactor_55 : decode cX5_readFactor 55 = .ok (.aload_n 0, 1) := by decide +kernel
theorem dX5_readFactor_56 : decode cX5_readFactor 56 = .ok (.iconst 4, 1) := by decide +kernel
theorem dX5_readFactor_57 : decode cX5_readFactor 57 = .ok (.aload_n 0, 1) := by decide +kernel
theorem dX5_readFactor_58 : decode cX5_readFactor 58 = .ok (.getfield 36, 3) := by decide +kernel
theorem dX5_readFactor_61 : decode cX5_readFactor 61 = .ok (.invokevirtual 69, 3) := by decide +kernel
theorem dX5_readFactor_64 : decode cX5_readFactor 64 = .ok (.ireturn, 1) := by decide +kernel
theorem dX5_readFactor_65 : decode cX5_readFactor 65 = .ok (.aload_n 0, 1) := by decide +kernel
theorem dX5_readFactor_66 : decode cX5_readFactor 66 = .ok (.dup, 1) := by decide +kernel
theorem dX5_readFactor_67 : decode cX5_readFactor 67 = .ok (.getfield 36, 3) := by decide +kernel
theorem dX5_readFactor_70 : decode cX5_readFactor 70 = .ok (.iconst 1, 1) := by decide +kernel
theorem dX5_readFactor_71 : decode cX5_readFactor 71 = .ok (.iadd, 1) := by decide +kernel
theorem dX5_readFactor_72 : decode cX5_readFactor 72 = .ok (.putfield 36, 3) := by decide +kernel
theorem dX5_readFactor_75 : decode cX5_readFactor 75 = .ok (.iload_n 2, 1) := by decide +kernel
theorem dX5_readFactor_76 : decode cX5_readFactor 76 = .ok (.bipush 40, 2) := by decide +kernel
theorem dX5_readFactor_78 : decode cX5_readFactor 78 = .ok (.if_icmp .ne 11, 3) := by decide +kernel
theorem dX5_readFactor_81 : decode cX5_readFactor 81 = .ok (.aload_n 0, 1) := by decide +kernel
theorem dX5_readFactor_82 : decode cX5_readFactor 82 = .ok (.iload_n 1, 1) := by decide +kernel
theorem dX5_readFactor_83 : decode cX5_readFactor 83 = .ok (.invokevirtual 115, 3) := by decide +kernel
theorem dX5_readFactor_86 : decode cX5_readFactor 86 = .ok (.goto 8, 3) := by decide +kernel
theorem dX5_readFactor_89 : decode cX5_readFactor 89 = .ok (.aload_n 0, 1) := by decide +kernel
theorem dX5_readFactor_90 : decode cX5_readFactor 90 = .ok (.iload_n 1, 1) := by decide +kernel
theorem dX5_readFactor_91 : decode cX5_readFactor 91 = .ok (.invokevirtual 118, 3) := by decide +kernel
theorem dX5_readFactor_94 : decode cX5_readFactor 94 = .ok (.ireturn, 1) := by decide +kernel
theorem dX5_readLetter_0 : decode cX5_readLetter 0 = .ok (.iload_n 1, 1) := by decide +kernel
theorem dX5_readLetter_1 : decode cX5_readLetter 1 = .ok (.ifCond .lt 17, 3) := by decide +kernel
theorem dX5_readLetter_4 : decode cX5_readLetter 4 = .ok (.iload_n 1, 1) := by decide +kernel
theorem dX5_readLetter_5 : decode cX5_readLetter 5 = .ok (.aload_n 0, 1) := by decide +kernel
theorem dX5_readLetter_6 : decode cX5_readLetter 6 = .ok (.getfield 42, 3) := by decide +kernel
theorem dX5_readLetter_9 : decode cX5_readLetter 9 = .ok (.getfield 121, 3) := by decide +kernel
theorem dX5_readLetter_12 : decode cX5_readLetter 12 = .ok (.getfield 127, 3) := by decide +kernel
theorem dX5_readLetter_15 : decode cX5_readLetter 15 = .ok (.if_icmp .lt 13, 3) := by decide +kernel
theorem dX5_readLetter_18 : decode cX5_readLetter 18 = .ok (.aload_n 0, 1) := by decide +kernel
theorem dX5_readLetter_19 : decode cX5_readLetter 19 = .ok (.iconst 3, 1) := by decide +kernel
theorem dX5_readLetter_20 : decode cX5_readLetter 20 = .ok (.aload_n 0, 1) := by decide +kernel
theorem dX5_readLetter_21 : decode cX5_readLetter 21 = .ok (.getfield 36, 3) := by decide +kernel
theorem dX5_readLetter_24 : decode cX5_readLetter 24 = .ok (.invokevirtual 69, 3) := by decide +kernel
theorem dX5_readLetter_27 : decode cX5_readLetter 27 = .ok (.ireturn, 1) := by decide +kernel
theorem dX5_readLetter_28 : decode cX5_readLetter 28 = .ok (.aload_n 2, 1) := by decide +kernel
theorem dX5_readLetter_29 : decode cX5_readLetter 29 = .ok (.iload_n 1, 1) := by decide +kernel
theorem dX5_readLetter_30 : decode cX5_readLetter 30 = .ok (.lconst 1, 1) := by decide +kernel
theorem dX5_readLetter_31 : decode cX5_readLetter 31 = .ok (.invokestatic 132, 3) := by decide +kernel
theorem dX5_readLetter_34 : decode cX5_readLetter 34 = .ok (.aload_n 0, 1) := by decide +kernel
theorem dX5_readLetter_35 : decode cX5_readLetter 35 = .ok (.invokevirtual 136, 3) := by decide +kernel
theorem dX5_readLetter_38 : decode cX5_readLetter 38 = .ok (.ireturn, 1) := by decide +kernel
theorem dX5_readRegister_0 : decode cX5_readRegister 0 = .ok (.aload_n 0, 1) := by decide +kernel
theorem dX5_readRegister_1 : decode cX5_readRegister 1 = .ok (.dup, 1) := by decide +kernel
theorem dX5_readRegister_2 : decode cX5_readRegister 2 = .ok (.getfield 36, 3) := by decide +kernel
theorem dX5_readRegister_5 : decode cX5_readRegister 5 = .ok (.iconst 1, 1) := by decide +kernel
theorem dX5_readRegister_6 : decode cX5_readRegister 6 = .ok (.iadd, 1) := by decide +kernel
theorem dX5_readRegister_7 : decode cX5_readRegister 7 = .ok (.putfield 36, 3) := by decide +kernel
theorem dX5_readRegister_10 : decode cX5_readRegister 10 = .ok (.aload_n 0, 1) := by decide +kernel
theorem dX5_readRegister_11 : decode cX5_readRegister 11 = .ok (.invokevirtual 73, 3) := by decide +kernel
theorem dX5_readRegister_14 : decode cX5_readRegister 14 = .ok (.bipush 48, 2) := by decide +kernel
theorem dX5_readRegister_16 : decode cX5_readRegister 16 = .ok (.isub, 1) := by decide +kernel
theorem dX5_readRegister_17 : decode cX5_readRegister 17 = .ok (.istore_n 2, 1) := by decide +kernel
theorem dX5_readRegister_18 : decode cX5_readRegister 18 = .ok (.iload_n 2, 1) := by decide +kernel
theorem dX5_readRegister_19 : decode cX5_readRegister 19 = .ok (.invokestatic 140, 3) := by decide +kernel
theorem dX5_readRegister_22 : decode cX5_readRegister 22 = .ok (.ifCond .ne 13, 3) := by decide +kernel
theorem dX5_readRegister_25 : decode cX5_readRegister 25 = .ok (.aload_n 0, 1) := by decide +kernel
theorem dX5_readRegister_26 : decode cX5_readRegister 26 = .ok (.iconst 1, 1) := by decide +kernel
theorem dX5_readRegister_27 : decode cX5_readRegister 27 = .ok (.aload_n 0, 1) := by decide +kernel
theorem dX5_readRegister_28 : decode cX5_readRegister 28 = .ok (.getfield 36, 3) := by decide +kernel
theorem dX5_readRegister_31 : decode cX5_readRegister 31 = .ok (.invokevirtual 69, 3) := by decide +kernel
theorem dX5_readRegister_34 : decode cX5_readRegister 34 = .ok (.ireturn, 1) := by decide +kernel
theorem dX5_readRegister_35 : decode cX5_readRegister 35 = .ok (.aload_n 0, 1) := by decide +kernel
theorem dX5_readRegister_36 : decode cX5_readRegister 36 = .ok (.getfield 42, 3) := by decide +kernel
theorem dX5_readRegister_39 : decode cX5_readRegister 39 = .ok (.getfield 143, 3) := by decide +kernel
theorem dX5_readRegister_42 : decode cX5_readRegister 42 = .ok (.iload_n 2, 1) := by decide +kernel
theorem dX5_readRegister_43 : decode cX5_readRegister 43 = .ok (.aaload, 1) := by decide +kernel
theorem dX5_readRegister_44 : decode cX5_readRegister 44 = .ok (.aload_n 1, 1) := by decide +kernel
theorem dX5_readRegister_45 : decode cX5_readRegister 45 = .ok (.invokestatic 146, 3) := by decide +kernel
theorem dX5_readRegister_48 : decode cX5_readRegister 48 = .ok (.aload_n 0, 1) := by decide +kernel
theorem dX5_readRegister_49 : decode cX5_readRegister 49 = .ok (.invokevirtual 136, 3) := by decide +kernel
theorem dX5_readRegister_52 : decode cX5_readRegister 52 = .ok (.ireturn, 1) := by decide +kernel
theorem dX5_passFactor_0 : decode cX5_passFactor 0 = .ok (.aload_n 0, 1) := by decide +kernel
theorem dX5_passFactor_1 : decode cX5_passFactor 1 = .ok (.dup, 1) := by decide +kernel
theorem dX5_passFactor_2 : decode cX5_passFactor 2 = .ok (.getfield 36, 3) := by decide +kernel
theorem dX5_passFactor_5 : decode cX5_passFactor 5 = .ok (.iconst 1, 1) := by decide +kernel
theorem dX5_passFactor_6 : decode cX5_passFactor 6 = .ok (.iadd, 1) := by decide +kernel
theorem dX5_passFactor_7 : decode cX5_passFactor 7 = .ok (.putfield 36, 3) := by decide +kernel
theorem dX5_passFactor_10 : decode cX5_passFactor 10 = .ok (.aload_n 0, 1) := by decide +kernel
theorem dX5_passFactor_11 : decode cX5_passFactor 11 = .ok (.aload_n 0, 1) := by decide +kernel
theorem dX5_passFactor_12 : decode cX5_passFactor 12 = .ok (.getfield 36, 3) := by decide +kernel
theorem dX5_passFactor_15 : decode cX5_passFactor 15 = .ok (.putfield 39, 3) := by decide +kernel
theorem dX5_passFactor_18 : decode cX5_passFactor 18 = .ok (.iconst 1, 1) := by decide +kernel
theorem dX5_passFactor_19 : decode cX5_passFactor 19 = .ok (.ireturn, 1) := by decide +kernel
theorem dX5_readRound_0 : decode cX5_readRound 0 = .ok (.aload_n 0, 1) := by decide +kernel
theorem dX5_readRound_1 : decode cX5_readRound 1 = .ok (.iload_n 1, 1) := by decide +kernel
theorem dX5_readRound_2 : decode cX5_readRound 2 = .ok (.iconst 1, 1) := by decide +kernel
theorem dX5_readRound_3 : decode cX5_readRound 3 = .ok (.iadd, 1) := by decide +kernel
theorem dX5_readRound_4 : decode cX5_readRound 4 = .ok (.invokevirtual 65, 3) := by decide +kernel
theorem dX5_readRound_7 : decode cX5_readRound 7 = .ok (.ifCond .ne 5, 3) := by decide +kernel
theorem dX5_readRound_10 : decode cX5_readRound 10 = .ok (.iconst 0, 1) := by decide +kernel
theorem dX5_readRound_11 : decode cX5_readRound 11 = .ok (.ireturn, 1) := by decide +kernel
theorem dX5_readRound_12 : decode cX5_readRound 12 = .ok (.aload_n 0, 1) := by decide +kernel
theorem dX5_readRound_13 : decode cX5_readRound 13 = .ok (.invokevirtual 73, 3) := by decide +kernel
theorem dX5_readRound_16 : decode cX5_readRound 16 = .ok (.bipush 41, 2) := by decide +kernel
theorem dX5_readRound_18 : decode cX5_readRound 18 = .ok (.if_icmp .eq 13, 3) := by decide +kernel
theorem dX5_readRound_21 : decode cX5_readRound 21 = .ok (.aload_n 0, 1) := by decide +kernel
theorem dX5_readRound_22 : decode cX5_readRound 22 = .ok (.iconst 1, 1) := by decide +kernel
theorem dX5_readRound_23 : decode cX5_readRound 23 = .ok (.aload_n 0, 1) := by decide +kernel
theorem dX5_readRound_24 : decode cX5_readRound 24 = .ok (.getfield 36, 3) := by decide +kernel
theorem dX5_readRound_27 : decode cX5_readRound 27 = .ok (.invokevirtual 69, 3) := by decide +kernel
theorem dX5_readRound_30 : decode cX5_readRound 30 = .ok (.ireturn, 1) := by decide +kernel
theorem dX5_readRound_31 : decode cX5_readRound 31 = .ok (.aload_n 0, 1) := by decide +kernel
theorem dX5_readRound_32 : decode cX5_readRound 32 = .ok (.getfield 20, 3) := by decide +kernel
theorem dX5_readRound_35 : decode cX5_readRound 35 = .ok (.iload_n 1, 1) := by decide +kernel
theorem dX5_readRound_36 : decode cX5_readRound 36 = .ok (.iconst 1, 1) := by decide +kernel
theorem dX5_readRound_37 : decode cX5_readRound 37 = .ok (.iadd, 1) := by decide +kernel
theorem dX5_readRound_38 : decode cX5_readRound 38 = .ok (.aaload, 1) := by decide +kernel
theorem dX5_readRound_39 : decode cX5_readRound 39 = .ok (.aload_n 0, 1) := by decide +kernel
theorem dX5_readRound_40 : decode cX5_readRound 40 = .ok (.getfield 23, 3) := by decide +kernel
theorem dX5_readRound_43 : decode cX5_readRound 43 = .ok (.iload_n 1, 1) := by decide +kernel
theorem dX5_readRound_44 : decode cX5_readRound 44 = .ok (.aaload, 1) := by decide +kernel
theorem dX5_readRound_45 : decode cX5_readRound 45 = .ok (.invokestatic 146, 3) := by decide +kernel
theorem dX5_readRound_48 : decode cX5_readRound 48 = .ok (.aload_n 0, 1) := by decide +kernel
theorem dX5_readRound_49 : decode cX5_readRound 49 = .ok (.invokevirtual 136, 3) := by decide +kernel
theorem dX5_readRound_52 : decode cX5_readRound 52 = .ok (.ireturn, 1) := by decide +kernel
theorem dX5_readSquare_0 : decode cX5_readSquare 0 = .ok (.aload_n 0, 1) := by decide +kernel
theorem dX5_readSquare_1 : decode cX5_readSquare 1 = .ok (.getfield 26, 3) := by decide +kernel
theorem dX5_readSquare_4 : decode cX5_readSquare 4 = .ok (.iload_n 1, 1) := by decide +kernel
theorem dX5_readSquare_5 : decode cX5_readSquare 5 = .ok (.aaload, 1) := by decide +kernel
theorem dX5_readSquare_6 : decode cX5_readSquare 6 = .ok (.astore_n 2, 1) := by decide +kernel
theorem dX5_readSquare_7 : decode cX5_readSquare 7 = .ok (.aload_n 0, 1) := by decide +kernel
theorem dX5_readSquare_8 : decode cX5_readSquare 8 = .ok (.iload_n 1, 1) := by decide +kernel
theorem dX5_readSquare_9 : decode cX5_readSquare 9 = .ok (.iconst 1, 1) := by decide +kernel
theorem dX5_readSquare_10 : decode cX5_readSquare 10 = .ok (.iadd, 1) := by decide +kernel
theorem dX5_readSquare_11 : decode cX5_readSquare 11 = .ok (.invokevirtual 65, 3) := by decide +kernel
theorem dX5_readSquare_14 : decode cX5_readSquare 14 = .ok (.ifCond .ne 5, 3) := by decide +kernel
theorem dX5_readSquare_17 : decode cX5_readSquare 17 = .ok (.iconst 0, 1) := by decide +kernel
theorem dX5_readSquare_18 : decode cX5_readSquare 18 = .ok (.ireturn, 1) := by decide +kernel
theorem dX5_readSquare_19 : decode cX5_readSquare 19 = .ok (.aload_n 0, 1) := by decide +kernel
theorem dX5_readSquare_20 : decode cX5_readSquare 20 = .ok (.getfield 20, 3) := by decide +kernel
theorem dX5_readSquare_23 : decode cX5_readSquare 23 = .ok (.iload_n 1, 1) := by decide +kernel
theorem dX5_readSquare_24 : decode cX5_readSquare 24 = .ok (.iconst 1, 1) := by decide +kernel
theorem dX5_readSquare_25 : decode cX5_readSquare 25 = .ok (.iadd, 1) := by decide +kernel
theorem dX5_readSquare_26 : decode cX5_readSquare 26 = .ok (.aaload, 1) := by decide +kernel
theorem dX5_readSquare_27 : decode cX5_readSquare 27 = .ok (.aload_n 2, 1) := by decide +kernel
theorem dX5_readSquare_28 : decode cX5_readSquare 28 = .ok (.invokestatic 146, 3) := by decide +kernel
theorem dX5_readSquare_31 : decode cX5_readSquare 31 = .ok (.aload_n 0, 1) := by decide +kernel
theorem dX5_readSquare_32 : decode cX5_readSquare 32 = .ok (.invokevirtual 73, 3) := by decide +kernel
theorem dX5_readSquare_35 : decode cX5_readSquare 35 = .ok (.bipush 44, 2) := by decide +kernel
theorem dX5_readSquare_37 : decode cX5_readSquare 37 = .ok (.if_icmp .eq 13, 3) := by decide +kernel
theorem dX5_readSquare_40 : decode cX5_readSquare 40 = .ok (.aload_n 0, 1) := by decide +kernel
theorem dX5_readSquare_41 : decode cX5_readSquare 41 = .ok (.iconst 1, 1) := by decide +kernel
theorem dX5_readSquare_42 : decode cX5_readSquare 42 = .ok (.aload_n 0, 1) := by decide +kernel
theorem dX5_readSquare_43 : decode cX5_readSquare 43 = .ok (.getfield 36, 3) := by decide +kernel
theorem dX5_readSquare_46 : decode cX5_readSquare 46 = .ok (.invokevirtual 69, 3) := by decide +kernel
theorem dX5_readSquare_49 : decode cX5_readSquare 49 = .ok (.ireturn, 1) := by decide +kernel
theorem dX5_readSquare_50 : decode cX5_readSquare 50 = .ok (.iconst 0, 1) := by decide +kernel
theorem dX5_readSquare_51 : decode cX5_readSquare 51 = .ok (.istore_n 3, 1) := by decide +kernel
theorem dX5_readSquare_52 : decode cX5_readSquare 52 = .ok (.iload_n 3, 1) := by decide +kernel
theorem dX5_readSquare_53 : decode cX5_readSquare 53 = .ok (.sipush 200, 3) := by decide +kernel
theorem dX5_readSquare_56 : decode cX5_readSquare 56 = .ok (.if_icmp .ge 77, 3) := by decide +kernel
theorem dX5_readSquare_59 : decode cX5_readSquare 59 = .ok (.aload_n 0, 1) := by decide +kernel
theorem dX5_readSquare_60 : decode cX5_readSquare 60 = .ok (.invokevirtual 73, 3) := by decide +kernel
theorem dX5_readSquare_63 : decode cX5_readSquare 63 = .ok (.bipush 44, 2) := by decide +kernel
theorem dX5_readSquare_65 : decode cX5_readSquare 65 = .ok (.if_icmp .ne 68, 3) := by decide +kernel
theorem dX5_readSquare_68 : decode cX5_readSquare 68 = .ok (.aload_n 0, 1) := by decide +kernel
theorem dX5_readSquare_69 : decode cX5_readSquare 69 = .ok (.dup, 1) := by decide +kernel
theorem dX5_readSquare_70 : decode cX5_readSquare 70 = .ok (.getfield 36, 3) := by decide +kernel
theorem dX5_readSquare_73 : decode cX5_readSquare 73 = .ok (.iconst 1, 1) := by decide +kernel
theorem dX5_readSquare_74 : decode cX5_readSquare 74 = .ok (.iadd, 1) := by decide +kernel
theorem dX5_readSquare_75 : decode cX5_readSquare 75 = .ok (.putfield 36, 3) := by decide +kernel
theorem dX5_readSquare_78 : decode cX5_readSquare 78 = .ok (.aload_n 0, 1) := by decide +kernel
theorem dX5_readSquare_79 : decode cX5_readSquare 79 = .ok (.iload_n 1, 1) := by decide +kernel
theorem dX5_readSquare_80 : decode cX5_readSquare 80 = .ok (.iconst 1, 1) := by decide +kernel
theorem dX5_readSquare_81 : decode cX5_readSquare 81 = .ok (.iadd, 1) := by decide +kernel
theorem dX5_readSquare_82 : decode cX5_readSquare 82 = .ok (.invokevirtual 65, 3) := by decide +kernel
theorem dX5_readSquare_85 : decode cX5_readSquare 85 = .ok (.ifCond .ne 5, 3) := by decide +kernel
theorem dX5_readSquare_88 : decode cX5_readSquare 88 = .ok (.iconst 0, 1) := by decide +kernel
theorem dX5_readSquare_89 : decode cX5_readSquare 89 = .ok (.ireturn, 1) := by decide +kernel
theorem dX5_readSquare_90 : decode cX5_readSquare 90 = .ok (.aload_n 0, 1) := by decide +kernel
theorem dX5_readSquare_91 : decode cX5_readSquare 91 = .ok (.getfield 46, 3) := by decide +kernel
theorem dX5_readSquare_94 : decode cX5_readSquare 94 = .ok (.aload_n 2, 1) := by decide +kernel
theorem dX5_readSquare_95 : decode cX5_readSquare 95 = .ok (.aload_n 2, 1) := by decide +kernel
theorem dX5_readSquare_96 : decode cX5_readSquare 96 = .ok (.aload_n 0, 1) := by decide +kernel
theorem dX5_readSquare_97 : decode cX5_readSquare 97 = .ok (.getfield 20, 3) := by decide +kernel
theorem dX5_readSquare_100 : decode cX5_readSquare 100 = .ok (.iload_n 1, 1) := by decide +kernel
theorem dX5_readSquare_101 : decode cX5_readSquare 101 = .ok (.iconst 1, 1) := by decide +kernel
theorem dX5_readSquare_102 : decode cX5_readSquare 102 = .ok (.iadd, 1) := by decide +kernel
theorem dX5_readSquare_103 : decode cX5_readSquare 103 = .ok (.aaload, 1) := by decide +kernel
theorem dX5_readSquare_104 : decode cX5_readSquare 104 = .ok (.invokevirtual 150, 3) := by decide +kernel
theorem dX5_readSquare_107 : decode cX5_readSquare 107 = .ok (.aload_n 2, 1) := by decide +kernel
theorem dX5_readSquare_108 : decode cX5_readSquare 108 = .ok (.ldc2_w 102, 3) := by decide +kernel
theorem dX5_readSquare_111 : decode cX5_readSquare 111 = .ok (.invokestatic 104, 3) := by decide +kernel
theorem dX5_readSquare_114 : decode cX5_readSquare 114 = .ok (.ifCond .ne 13, 3) := by decide +kernel
theorem dX5_readSquare_117 : decode cX5_readSquare 117 = .ok (.aload_n 0, 1) := by decide +kernel
theorem dX5_readSquare_118 : decode cX5_readSquare 118 = .ok (.iconst 5, 1) := by decide +kernel
theorem dX5_readSquare_119 : decode cX5_readSquare 119 = .ok (.aload_n 0, 1) := by decide +kernel
theorem dX5_readSquare_120 : decode cX5_readSquare 120 = .ok (.getfield 39, 3) := by decide +kernel
theorem dX5_readSquare_123 : decode cX5_readSquare 123 = .ok (.invokevirtual 69, 3) := by decide +kernel
theorem dX5_readSquare_126 : decode cX5_readSquare 126 = .ok (.ireturn, 1) := by decide +kernel
theorem dX5_readSquare_127 : decode cX5_readSquare 127 = .ok (.iinc 3 1, 3) := by decide +kernel
theorem dX5_readSquare_130 : decode cX5_readSquare 130 = .ok (.goto (-78), 3) := by decide +kernel
theorem dX5_readSquare_133 : decode cX5_readSquare 133 = .ok (.aload_n 0, 1) := by decide +kernel
theorem dX5_readSquare_134 : decode cX5_readSquare 134 = .ok (.invokevirtual 73, 3) := by decide +kernel
theorem dX5_readSquare_137 : decode cX5_readSquare 137 = .ok (.bipush 93, 2) := by decide +kernel
theorem dX5_readSquare_139 : decode cX5_readSquare 139 = .ok (.if_icmp .eq 13, 3) := by decide +kernel
theorem dX5_readSquare_142 : decode cX5_readSquare 142 = .ok (.aload_n 0, 1) := by decide +kernel
theorem dX5_readSquare_143 : decode cX5_readSquare 143 = .ok (.iconst 1, 1) := by decide +kernel
theorem dX5_readSquare_144 : decode cX5_readSquare 144 = .ok (.aload_n 0, 1) := by decide +kernel
theorem dX5_readSquare_145 : decode cX5_readSquare 145 = .ok (.getfield 36, 3) := by decide +kernel
theorem dX5_readSquare_148 : decode cX5_readSquare 148 = .ok (.invokevirtual 69, 3) := by decide +kernel
theorem dX5_readSquare_151 : decode cX5_readSquare 151 = .ok (.ireturn, 1) := by decide +kernel
theorem dX5_readSquare_152 : decode cX5_readSquare 152 = .ok (.aload_n 2, 1) := by decide +kernel
theorem dX5_readSquare_153 : decode cX5_readSquare 153 = .ok (.aload_n 0, 1) := by decide +kernel
theorem dX5_readSquare_154 : decode cX5_readSquare 154 = .ok (.getfield 23, 3) := by decide +kernel
theorem dX5_readSquare_157 : decode cX5_readSquare 157 = .ok (.iload_n 1, 1) := by decide +kernel
theorem dX5_readSquare_158 : decode cX5_readSquare 158 = .ok (.aaload, 1) := by decide +kernel
theorem dX5_readSquare_159 : decode cX5_readSquare 159 = .ok (.invokestatic 146, 3) := by decide +kernel
theorem dX5_readSquare_162 : decode cX5_readSquare 162 = .ok (.aload_n 0, 1) := by decide +kernel
theorem dX5_readSquare_163 : decode cX5_readSquare 163 = .ok (.invokevirtual 136, 3) := by decide +kernel
theorem dX5_readSquare_166 : decode cX5_readSquare 166 = .ok (.ireturn, 1) := by decide +kernel
theorem dX5_readPower_0 : decode cX5_readPower 0 = .ok (.aload_n 0, 1) := by decide +kernel
theorem dX5_readPower_1 : decode cX5_readPower 1 = .ok (.invokevirtual 83, 3) := by decide +kernel
theorem dX5_readPower_4 : decode cX5_readPower 4 = .ok (.bipush 94, 2) := by decide +kernel
theorem dX5_readPower_6 : decode cX5_readPower 6 = .ok (.if_icmp .eq 5, 3) := by decide +kernel
theorem dX5_readPower_9 : decode cX5_readPower 9 = .ok (.iconst 1, 1) := by decide +kernel
theorem dX5_readPower_10 : decode cX5_readPower 10 = .ok (.ireturn, 1) := by decide +kernel
theorem dX5_readPower_11 : decode cX5_readPower 11 = .ok (.aload_n 0, 1) := by decide +kernel
theorem dX5_readPower_12 : decode cX5_readPower 12 = .ok (.dup, 1) := by decide +kernel
theorem dX5_readPower_13 : decode cX5_readPower 13 = .ok (.getfield 36, 3) := by decide +kernel
theorem dX5_readPower_16 : decode cX5_readPower 16 = .ok (.iconst 1, 1) := by decide +kernel
theorem dX5_readPower_17 : decode cX5_readPower 17 = .ok (.iadd, 1) := by decide +kernel
theorem dX5_readPower_18 : decode cX5_readPower 18 = .ok (.putfield 36, 3) := by decide +kernel
theorem dX5_readPower_21 : decode cX5_readPower 21 = .ok (.aload_n 0, 1) := by decide +kernel
theorem dX5_readPower_22 : decode cX5_readPower 22 = .ok (.invokevirtual 83, 3) := by decide +kernel
theorem dX5_readPower_25 : decode cX5_readPower 25 = .ok (.bipush 45, 2) := by decide +kernel
theorem dX5_readPower_27 : decode cX5_readPower 27 = .ok (.if_icmp .ne 7, 3) := by decide +kernel
theorem dX5_readPower_30 : decode cX5_readPower 30 = .ok (.iconst 1, 1) := by decide +kernel
theorem dX5_readPower_31 : decode cX5_readPower 31 = .ok (.goto 4, 3) := by decide +kernel
theorem dX5_readPower_34 : decode cX5_readPower 34 = .ok (.iconst 0, 1) := by decide +kernel
theorem dX5_readPower_35 : decode cX5_readPower 35 = .ok (.istore_n 2, 1) := by decide +kernel
theorem dX5_readPower_36 : decode cX5_readPower 36 = .ok (.iload_n 2, 1) := by decide +kernel
theorem dX5_readPower_37 : decode cX5_readPower 37 = .ok (.ifCond .eq 13, 3) := by decide +kernel
theorem dX5_readPower_40 : decode cX5_readPower 40 = .ok (.aload_n 0, 1) := by decide +kernel
theorem dX5_readPower_41 : decode cX5_readPower 41 = .ok (.dup, 1) := by decide +kernel
theorem dX5_readPower_42 : decode cX5_readPower 42 = .ok (.getfield 36, 3) := by decide +kernel
theorem dX5_readPower_45 : decode cX5_readPower 45 = .ok (.iconst 1, 1) := by decide +kernel
theorem dX5_readPower_46 : decode cX5_readPower 46 = .ok (.iadd, 1) := by decide +kernel
theorem dX5_readPower_47 : decode cX5_readPower 47 = .ok (.putfield 36, 3) := by decide +kernel
theorem dX5_readPower_50 : decode cX5_readPower 50 = .ok (.aload_n 0, 1) := by decide +kernel
theorem dX5_readPower_51 : decode cX5_readPower 51 = .ok (.invokevirtual 83, 3) := by decide +kernel
theorem dX5_readPower_54 : decode cX5_readPower 54 = .ok (.invokestatic 153, 3) := by decide +kernel
theorem dX5_readPower_57 : decode cX5_readPower 57 = .ok (.ifCond .ne 13, 3) := by decide +kernel
theorem dX5_readPower_60 : decode cX5_readPower 60 = .ok (.aload_n 0, 1) := by decide +kernel
theorem dX5_readPower_61 : decode cX5_readPower 61 = .ok (.iconst 1, 1) := by decide +kernel
theorem dX5_readPower_62 : decode cX5_readPower 62 = .ok (.aload_n 0, 1) := by decide +kernel
theorem dX5_readPower_63 : decode cX5_readPower 63 = .ok (.getfield 36, 3) := by decide +kernel
theorem dX5_readPower_66 : decode cX5_readPower 66 = .ok (.invokevirtual 69, 3) := by decide +kernel
theorem dX5_readPower_69 : decode cX5_readPower 69 = .ok (.ireturn, 1) := by decide +kernel
theorem dX5_readPower_70 : decode cX5_readPower 70 = .ok (.aload_n 0, 1) := by decide +kernel
theorem dX5_readPower_71 : decode cX5_readPower 71 = .ok (.getfield 36, 3) := by decide +kernel
theorem dX5_readPower_74 : decode cX5_readPower 74 = .ok (.istore_n 3, 1) := by decide +kernel
theorem dX5_readPower_75 : decode cX5_readPower 75 = .ok (.iconst 0, 1) := by decide +kernel
theorem dX5_readPower_76 : decode cX5_readPower 76 = .ok (.istore 4, 2) := by decide +kernel
theorem dX5_readPower_78 : decode cX5_readPower 78 = .ok (.iconst 0, 1) := by decide +kernel
theorem dX5_readPower_79 : decode cX5_readPower 79 = .ok (.istore 5, 2) := by decide +kernel
theorem dX5_readPower_81 : decode cX5_readPower 81 = .ok (.iload 5, 2) := by decide +kernel
theorem dX5_readPower_83 : decode cX5_readPower 83 = .ok (.sipush 200, 3) := by decide +kernel
theorem dX5_readPower_86 : decode cX5_readPower 86 = .ok (.if_icmp .ge 49, 3) := by decide +kernel
theorem dX5_readPower_89 : decode cX5_readPower 89 = .ok (.aload_n 0, 1) := by decide +kernel
theorem dX5_readPower_90 : decode cX5_readPower 90 = .ok (.invokevirtual 73, 3) := by decide +kernel
theorem dX5_readPower_93 : decode cX5_readPower 93 = .ok (.invokestatic 153, 3) := by decide +kernel
theorem dX5_readPower_96 : decode cX5_readPower 96 = .ok (.ifCond .eq 39, 3) := by decide +kernel
theorem dX5_readPower_99 : decode cX5_readPower 99 = .ok (.iload 4, 2) := by decide +kernel
theorem dX5_readPower_101 : decode cX5_readPower 101 = .ok (.bipush 10, 2) := by decide +kernel
theorem dX5_readPower_103 : decode cX5_readPower 103 = .ok (.imul, 1) := by decide +kernel
theorem dX5_readPower_104 : decode cX5_readPower 104 = .ok (.aload_n 0, 1) := by decide +kernel
theorem dX5_readPower_105 : decode cX5_readPower 105 = .ok (.invokevirtual 73, 3) := by decide +kernel
theorem dX5_readPower_108 : decode cX5_readPower 108 = .ok (.iadd, 1) := by decide +kernel
theorem dX5_readPower_109 : decode cX5_readPower 109 = .ok (.bipush 48, 2) := by decide +kernel
theorem dX5_readPower_111 : decode cX5_readPower 111 = .ok (.isub, 1) := by decide +kernel
theorem dX5_readPower_112 : decode cX5_readPower 112 = .ok (.bipush 100, 2) := by decide +kernel
theorem dX5_readPower_114 : decode cX5_readPower 114 = .ok (.invokestatic 50, 3) := by decide +kernel
theorem dX5_readPower_117 : decode cX5_readPower 117 = .ok (.istore 4, 2) := by decide +kernel
theorem dX5_readPower_119 : decode cX5_readPower 119 = .ok (.aload_n 0, 1) := by decide +kernel
theorem dX5_readPower_120 : decode cX5_readPower 120 = .ok (.dup, 1) := by decide +kernel
theorem dX5_readPower_121 : decode cX5_readPower 121 = .ok (.getfield 36, 3) := by decide +kernel
theorem dX5_readPower_124 : decode cX5_readPower 124 = .ok (.iconst 1, 1) := by decide +kernel
theorem dX5_readPower_125 : decode cX5_readPower 125 = .ok (.iadd, 1) := by decide +kernel
theorem dX5_readPower_126 : decode cX5_readPower 126 = .ok (.putfield 36, 3) := by decide +kernel
theorem dX5_readPower_129 : decode cX5_readPower 129 = .ok (.iinc 5 1, 3) := by decide +kernel
theorem dX5_readPower_132 : decode cX5_readPower 132 = .ok (.goto (-51), 3) := by decide +kernel
theorem dX5_readPower_135 : decode cX5_readPower 135 = .ok (.iload 4, 2) := by decide +kernel
theorem dX5_readPower_137 : decode cX5_readPower 137 = .ok (.bipush 99, 2) := by decide +kernel
theorem dX5_readPower_139 : decode cX5_readPower 139 = .ok (.if_icmp .le 10, 3) := by decide +kernel
theorem dX5_readPower_142 : decode cX5_readPower 142 = .ok (.aload_n 0, 1) := by decide +kernel
theorem dX5_readPower_143 : decode cX5_readPower 143 = .ok (.iconst 2, 1) := by decide +kernel
theorem dX5_readPower_144 : decode cX5_readPower 144 = .ok (.iload_n 3, 1) := by decide +kernel
theorem dX5_readPower_145 : decode cX5_readPower 145 = .ok (.invokevirtual 69, 3) := by decide +kernel
theorem dX5_readPower_148 : decode cX5_readPower 148 = .ok (.ireturn, 1) := by decide +kernel
theorem dX5_readPower_149 : decode cX5_readPower 149 = .ok (.aload_n 0, 1) := by decide +kernel
theorem dX5_readPower_150 : decode cX5_readPower 150 = .ok (.getfield 46, 3) := by decide +kernel
theorem dX5_readPower_153 : decode cX5_readPower 153 = .ok (.aload_n 1, 1) := by decide +kernel
theorem dX5_readPower_154 : decode cX5_readPower 154 = .ok (.aload_n 1, 1) := by decide +kernel
theorem dX5_readPower_155 : decode cX5_readPower 155 = .ok (.iload_n 2, 1) := by decide +kernel
theorem dX5_readPower_156 : decode cX5_readPower 156 = .ok (.ifCond .eq 10, 3) := by decide +kernel
theorem dX5_readPower_159 : decode cX5_readPower 159 = .ok (.iload 4, 2) := by decide +kernel
theorem dX5_readPower_161 : decode cX5_readPower 161 = .ok (.ineg, 1) := by decide +kernel
theorem dX5_readPower_162 : decode cX5_readPower 162 = .ok (.i2l, 1) := by decide +kernel
theorem dX5_readPower_163 : decode cX5_readPower 163 = .ok (.goto 6, 3) := by decide +kernel
theorem dX5_readPower_166 : decode cX5_readPower 166 = .ok (.iload 4, 2) := by decide +kernel
theorem dX5_readPower_168 : decode cX5_readPower 168 = .ok (.i2l, 1) := by decide +kernel
theorem dX5_readPower_169 : decode cX5_readPower 169 = .ok (.invokevirtual 156, 3) := by decide +kernel
theorem dX5_readPower_172 : decode cX5_readPower 172 = .ok (.aload_n 0, 1) := by decide +kernel
theorem dX5_readPower_173 : decode cX5_readPower 173 = .ok (.aload_n 0, 1) := by decide +kernel
theorem dX5_readPower_174 : decode cX5_readPower 174 = .ok (.getfield 36, 3) := by decide +kernel
theorem dX5_readPower_177 : decode cX5_readPower 177 = .ok (.putfield 39, 3) := by decide +kernel
theorem dX5_readPower_180 : decode cX5_readPower 180 = .ok (.aload_n 1, 1) := by decide +kernel
theorem dX5_readPower_181 : decode cX5_readPower 181 = .ok (.ldc2_w 102, 3) := by decide +kernel
theorem dX5_readPower_184 : decode cX5_readPower 184 = .ok (.invokestatic 104, 3) := by decide +kernel
theorem dX5_readPower_187 : decode cX5_readPower 187 = .ok (.ifCond .ne 15, 3) := by decide +kernel
theorem dX5_readPower_190 : decode cX5_readPower 190 = .ok (.aload_n 0, 1) := by decide +kernel
theorem dX5_readPower_191 : decode cX5_readPower 191 = .ok (.iconst 5, 1) := by decide +kernel
theorem dX5_readPower_192 : decode cX5_readPower 192 = .ok (.aload_n 0, 1) := by decide +kernel
theorem dX5_readPower_193 : decode cX5_readPower 193 = .ok (.getfield 36, 3) := by decide +kernel
theorem dX5_readPower_196 : decode cX5_readPower 196 = .ok (.invokevirtual 69, 3) := by decide +kernel
theorem dX5_readPower_199 : decode cX5_readPower 199 = .ok (.ifCond .eq 7, 3) := by decide +kernel
theorem dX5_readPower_202 : decode cX5_readPower 202 = .ok (.iconst 1, 1) := by decide +kernel
theorem dX5_readPower_203 : decode cX5_readPower 203 = .ok (.goto 4, 3) := by decide +kernel
theorem dX5_readPower_206 : decode cX5_readPower 206 = .ok (.iconst 0, 1) := by decide +kernel
theorem dX5_readPower_207 : decode cX5_readPower 207 = .ok (.ireturn, 1) := by decide +kernel
theorem dX6_init_0 : decode cX6_init 0 = .ok (.aload_n 0, 1) := by decide +kernel
theorem dX6_init_1 : decode cX6_init 1 = .ok (.invokespecial 3, 3) := by decide +kernel
theorem dX6_init_4 : decode cX6_init 4 = .ok (.aload_n 0, 1) := by decide +kernel
theorem dX6_init_5 : decode cX6_init 5 = .ok (.iconst 0, 1) := by decide +kernel
theorem dX6_init_6 : decode cX6_init 6 = .ok (.putfield 9, 3) := by decide +kernel
theorem dX6_init_9 : decode cX6_init 9 = .ok (.aload_n 0, 1) := by decide +kernel
theorem dX6_init_10 : decode cX6_init 10 = .ok (.bipush 6, 2) := by decide +kernel
theorem dX6_init_12 : decode cX6_init 12 = .ok (.newarray .int, 2) := by decide +kernel
theorem dX6_init_14 : decode cX6_init 14 = .ok (.putfield 15, 3) := by decide +kernel
theorem dX6_init_17 : decode cX6_init 17 = .ok (.aload_n 0, 1) := by decide +kernel
theorem dX6_init_18 : decode cX6_init 18 = .ok (.sipush 216, 3) := by decide +kernel
theorem dX6_init_21 : decode cX6_init 21 = .ok (.newarray .int, 2) := by decide +kernel
theorem dX6_init_23 : decode cX6_init 23 = .ok (.putfield 19, 3) := by decide +kernel
theorem dX6_init_26 : decode cX6_init 26 = .ok (.return_, 1) := by decide +kernel
theorem dX6_areWeights_0 : decode cX6_areWeights 0 = .ok (.iload_n 0, 1) := by decide +kernel
theorem dX6_areWeights_1 : decode cX6_areWeights 1 = .ok (.iconst 1, 1) := by decide +kernel
theorem dX6_areWeights_2 : decode cX6_areWeights 2 = .ok (.if_icmp .lt 22, 3) := by decide +kernel
theorem dX6_areWeights_5 : decode cX6_areWeights 5 = .ok (.iload_n 0, 1) := by decide +kernel
theorem dX6_areWeights_6 : decode cX6_areWeights 6 = .ok (.bipush 6, 2) := by decide +kernel
theorem dX6_areWeights_8 : decode cX6_areWeights 8 = .ok (.if_icmp .gt 16, 3) := by decide +kernel
theorem dX6_areWeights_11 : decode cX6_areWeights 11 = .ok (.iload_n 1, 1) := by decide +kernel
theorem dX6_areWeights_12 : decode cX6_areWeights 12 = .ok (.ifCond .lt 12, 3) := by decide +kernel
theorem dX6_areWeights_15 : decode cX6_areWeights 15 = .ok (.iload_n 1, 1) := by decide +kernel
theorem dX6_areWeights_16 : decode cX6_areWeights 16 = .ok (.iconst 1, 1) := by decide +kernel
theorem dX6_areWeights_17 : decode cX6_areWeights 17 = .ok (.iconst 2, 1) := by decide +kernel
theorem dX6_areWeights_18 : decode cX6_areWeights 18 = .ok (.iload_n 0, 1) := by decide +kernel
theorem dX6_areWeights_19 : decode cX6_areWeights 19 = .ok (.imul, 1) := by decide +kernel
theorem dX6_areWeights_20 : decode cX6_areWeights 20 = .ok (.ishl, 1) := by decide +kernel
theorem dX6_areWeights_21 : decode cX6_areWeights 21 = .ok (.if_icmp .lt 5, 3) := by decide +kernel
theorem dX6_areWeights_24 : decode cX6_areWeights 24 = .ok (.iconst 0, 1) := by decide +kernel
theorem dX6_areWeights_25 : decode cX6_areWeights 25 = .ok (.ireturn, 1) := by decide +kernel
theorem dX6_areWeights_26 : decode cX6_areWeights 26 = .ok (.iconst 1, 1) := by decide +kernel
theorem dX6_areWeights_27 : decode cX6_areWeights 27 = .ok (.istore_n 2, 1) := by decide +kernel
theorem dX6_areWeights_28 : decode cX6_areWeights 28 = .ok (.iconst 0, 1) := by decide +kernel
theorem dX6_areWeights_29 : decode cX6_areWeights 29 = .ok (.istore_n 3, 1) := by decide +kernel
theorem dX6_areWeights_30 : decode cX6_areWeights 30 = .ok (.iload_n 3, 1) := by decide +kernel
theorem dX6_areWeights_31 : decode cX6_areWeights 31 = .ok (.iload_n 0, 1) := by decide +kernel
theorem dX6_areWeights_32 : decode cX6_areWeights 32 = .ok (.if_icmp .ge 29, 3) := by decide +kernel
theorem dX6_areWeights_35 : decode cX6_areWeights 35 = .ok (.iload_n 1, 1) := by decide +kernel
theorem dX6_areWeights_36 : decode cX6_areWeights 36 = .ok (.iconst 2, 1) := by decide +kernel
theorem dX6_areWeights_37 : decode cX6_areWeights 37 = .ok (.iload_n 3, 1) := by decide +kernel
theorem dX6_areWeights_38 : decode cX6_areWeights 38 = .ok (.imul, 1) := by decide +kernel
theorem dX6_areWeights_39 : decode cX6_areWeights 39 = .ok (.ishr, 1) := by decide +kernel
theorem dX6_areWeights_40 : decode cX6_areWeights 40 = .ok (.iconst 3, 1) := by decide +kernel
theorem dX6_areWeights_41 : decode cX6_areWeights 41 = .ok (.iand, 1) := by decide +kernel
theorem dX6_areWeights_42 : decode cX6_areWeights 42 = .ok (.istore 4, 2) := by decide +kernel
theorem dX6_areWeights_44 : decode cX6_areWeights 44 = .ok (.iload 4, 2) := by decide +kernel
theorem dX6_areWeights_46 : decode cX6_areWeights 46 = .ok (.iload_n 2, 1) := by decide +kernel
theorem dX6_areWeights_47 : decode cX6_areWeights 47 = .ok (.if_icmp .ge 5, 3) := by decide +kernel
theorem dX6_areWeights_50 : decode cX6_areWeights 50 = .ok (.iconst 0, 1) := by decide +kernel
theorem dX6_areWeights_51 : decode cX6_areWeights 51 = .ok (.ireturn, 1) := by decide +kernel
theorem dX6_areWeights_52 : decode cX6_areWeights 52 = .ok (.iload 4, 2) := by decide +kernel
theorem dX6_areWeights_54 : decode cX6_areWeights 54 = .ok (.istore_n 2, 1) := by decide +kernel
theorem dX6_areWeights_55 : decode cX6_areWeights 55 = .ok (.iinc 3 1, 3) := by decide +kernel
theorem dX6_areWeights_58 : decode cX6_areWeights 58 = .ok (.goto (-28), 3) := by decide +kernel
theorem dX6_areWeights_61 : decode cX6_areWeights 61 = .ok (.iconst 1, 1) := by decide +kernel
theorem dX6_areWeights_62 : decode cX6_areWeights 62 = .ok (.ireturn, 1) := by decide +kernel
theorem dX6_reset_0 : decode cX6_reset 0 = .ok (.aload_n 0, 1) := by decide +kernel
theorem dX6_reset_1 : decode cX6_reset 1 = .ok (.iload_n 1, 1) := by decide +kernel
theorem dX6_reset_2 : decode cX6_reset 2 = .ok (.putfield 9, 3) := by decide +kernel
theorem dX6_reset_5 : decode cX6_reset 5 = .ok (.iconst 0, 1) := by decide +kernel
theorem dX6_reset_6 : decode cX6_reset 6 = .ok (.istore_n 3, 1) := by decide +kernel
theorem dX6_reset_7 : decode cX6_reset 7 = .ok (.iload_n 3, 1) := by decide +kernel
theorem dX6_reset_8 : decode cX6_reset 8 = .ok (.bipush 6, 2) := by decide +kernel
theorem dX6_reset_10 : decode cX6_reset 10 = .ok (.if_icmp .ge 22, 3) := by decide +kernel
theorem dX6_reset_13 : decode cX6_reset 13 = .ok (.aload_n 0, 1) := by decide +kernel
theorem dX6_reset_14 : decode cX6_reset 14 = .ok (.getfield 15, 3) := by decide +kernel
theorem dX6_reset_17 : decode cX6_reset 17 = .ok (.iload_n 3, 1) := by decide +kernel
theorem dX6_reset_18 : decode cX6_reset 18 = .ok (.iload_n 2, 1) := by decide +kernel
theorem dX6_reset_19 : decode cX6_reset 19 = .ok (.iconst 2, 1) := by decide +kernel
theorem dX6_reset_20 : decode cX6_reset 20 = .ok (.iload_n 3, 1) := by decide +kernel
theorem dX6_reset_21 : decode cX6_reset 21 = .ok (.imul, 1) := by decide +kernel
theorem dX6_reset_22 : decode cX6_reset 22 = .ok (.ishr, 1) := by decide +kernel
theorem dX6_reset_23 : decode cX6_reset 23 = .ok (.iconst 3, 1) := by decide +kernel
theorem dX6_reset_24 : decode cX6_reset 24 = .ok (.iand, 1) := by decide +kernel
theorem dX6_reset_25 : decode cX6_reset 25 = .ok (.iastore, 1) := by decide +kernel
theorem dX6_reset_26 : decode cX6_reset 26 = .ok (.iinc 3 1, 3) := by decide +kernel
theorem dX6_reset_29 : decode cX6_reset 29 = .ok (.goto (-22), 3) := by decide +kernel
theorem dX6_reset_32 : decode cX6_reset 32 = .ok (.aload_n 0, 1) := by decide +kernel
theorem dX6_reset_33 : decode cX6_reset 33 = .ok (.getfield 19, 3) := by decide +kernel
theorem dX6_reset_36 : decode cX6_reset 36 = .ok (.iconst 0, 1) := by decide +kernel
theorem dX6_reset_37 : decode cX6_reset 37 = .ok (.invokestatic 22, 3) := by decide +kernel
theorem dX6_reset_40 : decode cX6_reset 40 = .ok (.return_, 1) := by decide +kernel
theorem dX6_takeKind_0 : decode cX6_takeKind 0 = .ok (.iload_n 1, 1) := by decide +kernel
theorem dX6_takeKind_1 : decode cX6_takeKind 1 = .ok (.ifCond .lt 19, 3) := by decide +kernel
theorem dX6_takeKind_4 : decode cX6_takeKind 4 = .ok (.iload_n 1, 1) := by decide +kernel
theorem dX6_takeKind_5 : decode cX6_takeKind 5 = .ok (.getstatic 28, 3) := by decide +kernel
theorem dX6_takeKind_8 : decode cX6_takeKind 8 = .ok (.arraylength, 1) := by decide +kernel
theorem dX6_takeKind_9 : decode cX6_takeKind 9 = .ok (.if_icmp .ge 11, 3) := by decide +kernel
theorem dX6_takeKind_12 : decode cX6_takeKind 12 = .ok (.iload_n 1, 1) := by decide +kernel
theorem dX6_takeKind_13 : decode cX6_takeKind 13 = .ok (.getstatic 31, 3) := by decide +kernel
theorem dX6_takeKind_16 : decode cX6_takeKind 16 = .ok (.arraylength, 1) := by decide +kernel
theorem dX6_takeKind_17 : decode cX6_takeKind 17 = .ok (.if_icmp .lt 4, 3) := by decide +kernel
theorem dX6_takeKind_20 : decode cX6_takeKind 20 = .ok (.return_, 1) := by decide +kernel
theorem dX6_takeKind_21 : decode cX6_takeKind 21 = .ok (.aload_n 0, 1) := by decide +kernel
theorem dX6_takeKind_22 : decode cX6_takeKind 22 = .ok (.getstatic 28, 3) := by decide +kernel
theorem dX6_takeKind_25 : decode cX6_takeKind 25 = .ok (.iload_n 1, 1) := by decide +kernel
theorem dX6_takeKind_26 : decode cX6_takeKind 26 = .ok (.iaload, 1) := by decide +kernel
theorem dX6_takeKind_27 : decode cX6_takeKind 27 = .ok (.getstatic 31, 3) := by decide +kernel
theorem dX6_takeKind_30 : decode cX6_takeKind 30 = .ok (.iload_n 1, 1) := by decide +kernel
theorem dX6_takeKind_31 : decode cX6_takeKind 31 = .ok (.iaload, 1) := by decide +kernel
theorem dX6_takeKind_32 : decode cX6_takeKind 32 = .ok (.invokevirtual 34, 3) := by decide +kernel
theorem dX6_takeKind_35 : decode cX6_takeKind 35 = .ok (.iconst 0, 1) := by decide +kernel
theorem dX6_takeKind_36 : decode cX6_takeKind 36 = .ok (.istore_n 2, 1) := by decide +kernel
theorem dX6_takeKind_37 : decode cX6_takeKind 37 = .ok (.iload_n 2, 1) := by decide +kernel
theorem dX6_takeKind_38 : decode cX6_takeKind 38 = .ok (.iconst 3, 1) := by decide +kernel
theorem dX6_takeKind_39 : decode cX6_takeKind 39 = .ok (.iadd, 1) := by decide +kernel
theorem dX6_takeKind_40 : decode cX6_takeKind 40 = .ok (.getstatic 38, 3) := by decide +kernel
theorem dX6_takeKind_43 : decode cX6_takeKind 43 = .ok (.arraylength, 1) := by decide +kernel
theorem dX6_takeKind_44 : decode cX6_takeKind 44 = .ok (.if_icmp .ge 50, 3) := by decide +kernel
theorem dX6_takeKind_47 : decode cX6_takeKind 47 = .ok (.getstatic 38, 3) := by decide +kernel
theorem dX6_takeKind_50 : decode cX6_takeKind 50 = .ok (.iload_n 2, 1) := by decide +kernel
theorem dX6_takeKind_51 : decode cX6_takeKind 51 = .ok (.iaload, 1) := by decide +kernel
theorem dX6_takeKind_52 : decode cX6_takeKind 52 = .ok (.iload_n 1, 1) := by decide +kernel
theorem dX6_takeKind_53 : decode cX6_takeKind 53 = .ok (.if_icmp .ne 35, 3) := by decide +kernel
theorem dX6_takeKind_56 : decode cX6_takeKind 56 = .ok (.aload_n 0, 1) := by decide +kernel
theorem dX6_takeKind_57 : decode cX6_takeKind 57 = .ok (.getstatic 38, 3) := by decide +kernel
theorem dX6_takeKind_60 : decode cX6_takeKind 60 = .ok (.iload_n 2, 1) := by decide +kernel
theorem dX6_takeKind_61 : decode cX6_takeKind 61 = .ok (.iconst 1, 1) := by decide +kernel
theorem dX6_takeKind_62 : decode cX6_takeKind 62 = .ok (.iadd, 1) := by decide +kernel
theorem dX6_takeKind_63 : decode cX6_takeKind 63 = .ok (.iaload, 1) := by decide +kernel
theorem dX6_takeKind_64 : decode cX6_takeKind 64 = .ok (.iconst 1, 1) := by decide +kernel
theorem dX6_takeKind_65 : decode cX6_takeKind 65 = .ok (.isub, 1) := by decide +kernel
theorem dX6_takeKind_66 : decode cX6_takeKind 66 = .ok (.getstatic 38, 3) := by decide +kernel
theorem dX6_takeKind_69 : decode cX6_takeKind 69 = .ok (.iload_n 2, 1) := by decide +kernel
theorem dX6_takeKind_70 : decode cX6_takeKind 70 = .ok (.iconst 2, 1) := by decide +kernel
theorem dX6_takeKind_71 : decode cX6_takeKind 71 = .ok (.iadd, 1) := by decide +kernel
theorem dX6_takeKind_72 : decode cX6_takeKind 72 = .ok (.iaload, 1) := by decide +kernel
theorem dX6_takeKind_73 : decode cX6_takeKind 73 = .ok (.iconst 1, 1) := by decide +kernel
theorem dX6_takeKind_74 : decode cX6_takeKind 74 = .ok (.isub, 1) := by decide +kernel
theorem dX6_takeKind_75 : decode cX6_takeKind 75 = .ok (.getstatic 38, 3) := by decide +kernel
theorem dX6_takeKind_78 : decode cX6_takeKind 78 = .ok (.iload_n 2, 1) := by decide +kernel
theorem dX6_takeKind_79 : decode cX6_takeKind 79 = .ok (.iconst 3, 1) := by decide +kernel
theorem dX6_takeKind_80 : decode cX6_takeKind 80 = .ok (.iadd, 1) := by decide +kernel
theorem dX6_takeKind_81 : decode cX6_takeKind 81 = .ok (.iaload, 1) := by decide +kernel
theorem dX6_takeKind_82 : decode cX6_takeKind 82 = .ok (.iconst 1, 1) := by decide +kernel
theorem dX6_takeKind_83 : decode cX6_takeKind 83 = .ok (.isub, 1) := by decide +kernel
theorem dX6_takeKind_84 : decode cX6_takeKind 84 = .ok (.iconst 1, 1) := by decide +kernel
theorem dX6_takeKind_85 : decode cX6_takeKind 85 = .ok (.invokevirtual 41, 3) := by decide +kernel
theorem dX6_takeKind_88 : decode cX6_takeKind 88 = .ok (.iinc 2 4, 3) := by decide +kernel
theorem dX6_takeKind_91 : decode cX6_takeKind 91 = .ok (.goto (-54), 3) := by decide +kernel
theorem dX6_takeKind_94 : decode cX6_takeKind 94 = .ok (.return_, 1) := by decide +kernel
theorem dX6_takeAll_0 : decode cX6_takeAll 0 = .ok (.aload_n 0, 1) := by decide +kernel
theorem dX6_takeAll_1 : decode cX6_takeAll 1 = .ok (.aload_n 1, 1) := by decide +kernel
theorem dX6_takeAll_2 : decode cX6_takeAll 2 = .ok (.getfield 9, 3) := by decide +kernel
theorem dX6_takeAll_5 : decode cX6_takeAll 5 = .ok (.putfield 9, 3) := by decide +kernel
theorem dX6_takeAll_8 : decode cX6_takeAll 8 = .ok (.aload_n 1, 1) := by decide +kernel
theorem dX6_takeAll_9 : decode cX6_takeAll 9 = .ok (.getfield 15, 3) := by decide +kernel
theorem dX6_takeAll_12 : decode cX6_takeAll 12 = .ok (.iconst 0, 1) := by decide +kernel
theorem dX6_takeAll_13 : decode cX6_takeAll 13 = .ok (.aload_n 0, 1) := by decide +kernel
theorem dX6_takeAll_14 : decode cX6_takeAll 14 = .ok (.getfield 15, 3) := by decide +kernel
theorem dX6_takeAll_17 : decode cX6_takeAll 17 = .ok (.iconst 0, 1) := by decide +kernel
theorem dX6_takeAll_18 : decode cX6_takeAll 18 = .ok (.aload_n 0, 1) := by decide +kernel
theorem dX6_takeAll_19 : decode cX6_takeAll 19 = .ok (.getfield 15, 3) := by decide +kernel
theorem dX6_takeAll_22 : decode cX6_takeAll 22 = .ok (.arraylength, 1) := by decide +kernel
theorem dX6_takeAll_23 : decode cX6_takeAll 23 = .ok (.invokestatic 45, 3) := by decide +kernel
theorem dX6_takeAll_26 : decode cX6_takeAll 26 = .ok (.aload_n 1, 1) := by decide +kernel
theorem dX6_takeAll_27 : decode cX6_takeAll 27 = .ok (.getfield 19, 3) := by decide +kernel
theorem dX6_takeAll_30 : decode cX6_takeAll 30 = .ok (.iconst 0, 1) := by decide +kernel
theorem dX6_takeAll_31 : decode cX6_takeAll 31 = .ok (.aload_n 0, 1) := by decide +kernel
theorem dX6_takeAll_32 : decode cX6_takeAll 32 = .ok (.getfield 19, 3) := by decide +kernel
theorem dX6_takeAll_35 : decode cX6_takeAll 35 = .ok (.iconst 0, 1) := by decide +kernel
theorem dX6_takeAll_36 : decode cX6_takeAll 36 = .ok (.aload_n 0, 1) := by decide +kernel
theorem dX6_takeAll_37 : decode cX6_takeAll 37 = .ok (.getfield 19, 3) := by decide +kernel
theorem dX6_takeAll_40 : decode cX6_takeAll 40 = .ok (.arraylength, 1) := by decide +kernel
theorem dX6_takeAll_41 : decode cX6_takeAll 41 = .ok (.invokestatic 45, 3) := by decide +kernel
theorem dX6_takeAll_44 : decode cX6_takeAll 44 = .ok (.return_, 1) := by decide +kernel
theorem dX6_isSame_0 : decode cX6_isSame 0 = .ok (.aload_n 0, 1) := by decide +kernel
theorem dX6_isSame_1 : decode cX6_isSame 1 = .ok (.getfield 9, 3) := by decide +kernel
theorem dX6_isSame_4 : decode cX6_isSame 4 = .ok (.aload_n 1, 1) := by decide +kernel
theorem dX6_isSame_5 : decode cX6_isSame 5 = .ok (.getfield 9, 3) := by decide +kernel
theorem dX6_isSame_8 : decode cX6_isSame 8 = .ok (.if_icmp .eq 5, 3) := by decide +kernel
theorem dX6_isSame_11 : decode cX6_isSame 11 = .ok (.iconst 0, 1) := by decide +kernel
theorem dX6_isSame_12 : decode cX6_isSame 12 = .ok (.ireturn, 1) := by decide +kernel
theorem dX6_isSame_13 : decode cX6_isSame 13 = .ok (.iconst 0, 1) := by decide +kernel
theorem dX6_isSame_14 : decode cX6_isSame 14 = .ok (.istore_n 2, 1) := by decide +kernel
theorem dX6_isSame_15 : decode cX6_isSame 15 = .ok (.iload_n 2, 1) := by decide +kernel
theorem dX6_isSame_16 : decode cX6_isSame 16 = .ok (.aload_n 0, 1) := by decide +kernel
theorem dX6_isSame_17 : decode cX6_isSame 17 = .ok (.getfield 15, 3) := by decide +kernel
theorem dX6_isSame_20 : decode cX6_isSame 20 = .ok (.arraylength, 1) := by decide +kernel
theorem dX6_isSame_21 : decode cX6_isSame 21 = .ok (.if_icmp .ge 26, 3) := by decide +kernel
theorem dX6_isSame_24 : decode cX6_isSame 24 = .ok (.aload_n 0, 1) := by decide +kernel
theorem dX6_isSame_25 : decode cX6_isSame 25 = .ok (.getfield 15, 3) := by decide +kernel
theorem dX6_isSame_28 : decode cX6_isSame 28 = .ok (.iload_n 2, 1) := by decide +kernel
theorem dX6_isSame_29 : decode cX6_isSame 29 = .ok (.iaload, 1) := by decide +kernel
theorem dX6_isSame_30 : decode cX6_isSame 30 = .ok (.aload_n 1, 1) := by decide +kernel
theorem dX6_isSame_31 : decode cX6_isSame 31 = .ok (.getfield 15, 3) := by decide +kernel
theorem dX6_isSame_34 : decode cX6_isSame 34 = .ok (.iload_n 2, 1) := by decide +kernel
theorem dX6_isSame_35 : decode cX6_isSame 35 = .ok (.iaload, 1) := by decide +kernel
theorem dX6_isSame_36 : decode cX6_isSame 36 = .ok (.if_icmp .eq 5, 3) := by decide +kernel
theorem dX6_isSame_39 : decode cX6_isSame 39 = .ok (.iconst 0, 1) := by decide +kernel
theorem dX6_isSame_40 : decode cX6_isSame 40 = .ok (.ireturn, 1) := by decide +kernel
theorem dX6_isSame_41 : decode cX6_isSame 41 = .ok (.iinc 2 1, 3) := by decide +kernel
theorem dX6_isSame_44 : decode cX6_isSame 44 = .ok (.goto (-29), 3) := by decide +kernel
theorem dX6_isSame_47 : decode cX6_isSame 47 = .ok (.iconst 0, 1) := by decide +kernel
theorem dX6_isSame_48 : decode cX6_isSame 48 = .ok (.istore_n 2, 1) := by decide +kernel
theorem dX6_isSame_49 : decode cX6_isSame 49 = .ok (.iload_n 2, 1) := by decide +kernel
theorem dX6_isSame_50 : decode cX6_isSame 50 = .ok (.aload_n 0, 1) := by decide +kernel
theorem dX6_isSame_51 : decode cX6_isSame 51 = .ok (.getfield 19, 3) := by decide +kernel
theorem dX6_isSame_54 : decode cX6_isSame 54 = .ok (.arraylength, 1) := by decide +kernel
theorem dX6_isSame_55 : decode cX6_isSame 55 = .ok (.if_icmp .ge 26, 3) := by decide +kernel
theorem dX6_isSame_58 : decode cX6_isSame 58 = .ok (.aload_n 0, 1) := by decide +kernel
theorem dX6_isSame_59 : decode cX6_isSame 59 = .ok (.getfield 19, 3) := by decide +kernel
theorem dX6_isSame_62 : decode cX6_isSame 62 = .ok (.iload_n 2, 1) := by decide +kernel
theorem dX6_isSame_63 : decode cX6_isSame 63 = .ok (.iaload, 1) := by decide +kernel
theorem dX6_isSame_64 : decode cX6_isSame 64 = .ok (.aload_n 1, 1) := by decide +kernel
theorem dX6_isSame_65 : decode cX6_isSame 65 = .ok (.getfield 19, 3) := by decide +kernel
theorem dX6_isSame_68 : decode cX6_isSame 68 = .ok (.iload_n 2, 1) := by decide +kernel
theorem dX6_isSame_69 : decode cX6_isSame 69 = .ok (.iaload, 1) := by decide +kernel
theorem dX6_isSame_70 : decode cX6_isSame 70 = .ok (.if_icmp .eq 5, 3) := by decide +kernel
theorem dX6_isSame_73 : decode cX6_isSame 73 = .ok (.iconst 0, 1) := by decide +kernel
theorem dX6_isSame_74 : decode cX6_isSame 74 = .ok (.ireturn, 1) := by decide +kernel
theorem dX6_isSame_75 : decode cX6_isSame 75 = .ok (.iinc 2 1, 3) := by decide +kernel
theorem dX6_isSame_78 : decode cX6_isSame 78 = .ok (.goto (-29), 3) := by decide +kernel
theorem dX6_isSame_81 : decode cX6_isSame 81 = .ok (.iconst 1, 1) := by decide +kernel
theorem dX6_isSame_82 : decode cX6_isSame 82 = .ok (.ireturn, 1) := by decide +kernel
theorem dX6_isTail_0 : decode cX6_isTail 0 = .ok (.iload_n 2, 1) := by decide +kernel
theorem dX6_isTail_1 : decode cX6_isTail 1 = .ok (.ifCond .lt 25, 3) := by decide +kernel
theorem dX6_isTail_4 : decode cX6_isTail 4 = .ok (.iload_n 1, 1) := by decide +kernel
theorem dX6_isTail_5 : decode cX6_isTail 5 = .ok (.iload_n 2, 1) := by decide +kernel
theorem dX6_isTail_6 : decode cX6_isTail 6 = .ok (.if_icmp .le 20, 3) := by decide +kernel
theorem dX6_isTail_9 : decode cX6_isTail 9 = .ok (.iload_n 3, 1) := by decide +kernel
theorem dX6_isTail_10 : decode cX6_isTail 10 = .ok (.iload_n 1, 1) := by decide +kernel
theorem dX6_isTail_11 : decode cX6_isTail 11 = .ok (.if_icmp .le 15, 3) := by decide +kernel
theorem dX6_isTail_14 : decode cX6_isTail 14 = .ok (.iload_n 3, 1) := by decide +kernel
theorem dX6_isTail_15 : decode cX6_isTail 15 = .ok (.aload_n 0, 1) := by decide +kernel
theorem dX6_isTail_16 : decode cX6_isTail 16 = .ok (.getfield 9, 3) := by decide +kernel
theorem dX6_isTail_19 : decode cX6_isTail 19 = .ok (.if_icmp .ge 7, 3) := by decide +kernel
theorem dX6_isTail_22 : decode cX6_isTail 22 = .ok (.iconst 1, 1) := by decide +kernel
theorem dX6_isTail_23 : decode cX6_isTail 23 = .ok (.goto 4, 3) := by decide +kernel
theorem dX6_isTail_26 : decode cX6_isTail 26 = .ok (.iconst 0, 1) := by decide +kernel
theorem dX6_isTail_27 : decode cX6_isTail 27 = .ok (.ireturn, 1) := by decide +kernel
theorem dX6_mayBe_0 : decode cX6_mayBe 0 = .ok (.aload_n 0, 1) := by decide +kernel
theorem dX6_mayBe_1 : decode cX6_mayBe 1 = .ok (.iload_n 1, 1) := by decide +kernel
theorem dX6_mayBe_2 : decode cX6_mayBe 2 = .ok (.iload_n 2, 1) := by decide +kernel
theorem dX6_mayBe_3 : decode cX6_mayBe 3 = .ok (.iload_n 3, 1) := by decide +kernel
theorem dX6_mayBe_4 : decode cX6_mayBe 4 = .ok (.invokevirtual 51, 3) := by decide +kernel
theorem dX6_mayBe_7 : decode cX6_mayBe 7 = .ok (.ifCond .eq 14, 3) := by decide +kernel
theorem dX6_mayBe_10 : decode cX6_mayBe 10 = .ok (.iload 4, 2) := by decide +kernel
theorem dX6_mayBe_12 : decode cX6_mayBe 12 = .ok (.ifCond .lt 9, 3) := by decide +kernel
theorem dX6_mayBe_15 : decode cX6_mayBe 15 = .ok (.iload 4, 2) := by decide +kernel
theorem dX6_mayBe_17 : decode cX6_mayBe 17 = .ok (.iconst 3, 1) := by decide +kernel
theorem dX6_mayBe_18 : decode cX6_mayBe 18 = .ok (.if_icmp .le 5, 3) := by decide +kernel
theorem dX6_mayBe_21 : decode cX6_mayBe 21 = .ok (.iconst 0, 1) := by decide +kernel
theorem dX6_mayBe_22 : decode cX6_mayBe 22 = .ok (.ireturn, 1) := by decide +kernel
theorem dX6_mayBe_23 : decode cX6_mayBe 23 = .ok (.iload 4, 2) := by decide +kernel
theorem dX6_mayBe_25 : decode cX6_mayBe 25 = .ok (.ifCond .eq 25, 3) := by decide +kernel
theorem dX6_mayBe_28 : decode cX6_mayBe 28 = .ok (.aload_n 0, 1) := by decide +kernel
theorem dX6_mayBe_29 : decode cX6_mayBe 29 = .ok (.getfield 15, 3) := by decide +kernel
theorem dX6_mayBe_32 : decode cX6_mayBe 32 = .ok (.iload_n 3, 1) := by decide +kernel
theorem dX6_mayBe_33 : decode cX6_mayBe 33 = .ok (.iaload, 1) := by decide +kernel
theorem dX6_mayBe_34 : decode cX6_mayBe 34 = .ok (.aload_n 0, 1) := by decide +kernel
theorem dX6_mayBe_35 : decode cX6_mayBe 35 = .ok (.getfield 15, 3) := by decide +kernel
theorem dX6_mayBe_38 : decode cX6_mayBe 38 = .ok (.iload_n 2, 1) := by decide +kernel
theorem dX6_mayBe_39 : decode cX6_mayBe 39 = .ok (.iaload, 1) := by decide +kernel
theorem dX6_mayBe_40 : decode cX6_mayBe 40 = .ok (.aload_n 0, 1) := by decide +kernel
theorem dX6_mayBe_41 : decode cX6_mayBe 41 = .ok (.getfield 15, 3) := by decide +kernel
theorem dX6_mayBe_44 : decode cX6_mayBe 44 = .ok (.iload_n 1, 1) := by decide +kernel
theorem dX6_mayBe_45 : decode cX6_mayBe 45 = .ok (.iaload, 1) := by decide +kernel
theorem dX6_mayBe_46 : decode cX6_mayBe 46 = .ok (.iadd, 1) := by decide +kernel
theorem dX6_mayBe_47 : decode cX6_mayBe 47 = .ok (.if_icmp .lt 7, 3) := by decide +kernel
theorem dX6_mayBe_50 : decode cX6_mayBe 50 = .ok (.iconst 1, 1) := by decide +kernel
theorem dX6_mayBe_51 : decode cX6_mayBe 51 = .ok (.goto 4, 3) := by decide +kernel
theorem dX6_mayBe_54 : decode cX6_mayBe 54 = .ok (.iconst 0, 1) := by decide +kernel
theorem dX6_mayBe_55 : decode cX6_mayBe 55 = .ok (.ireturn, 1) := by decide +kernel
theorem dX6_read_0 : decode cX6_read 0 = .ok (.aload_n 0, 1) := by decide +kernel
theorem dX6_read_1 : decode cX6_read 1 = .ok (.iload_n 1, 1) := by decide +kernel
theorem dX6_read_2 : decode cX6_read 2 = .ok (.iload_n 2, 1) := by decide +kernel
theorem dX6_read_3 : decode cX6_read 3 = .ok (.iload_n 3, 1) := by decide +kernel
theorem dX6_read_4 : decode cX6_read 4 = .ok (.invokevirtual 51, 3) := by decide +kernel
theorem dX6_read_7 : decode cX6_read 7 = .ok (.ifCond .eq 22, 3) := by decide +kernel
theorem dX6_read_10 : decode cX6_read 10 = .ok (.aload_n 0, 1) := by decide +kernel
theorem dX6_read_11 : decode cX6_read 11 = .ok (.getfield 19, 3) := by decide +kernel
theorem dX6_read_14 : decode cX6_read 14 = .ok (.iload_n 1, 1) := by decide +kernel
theorem dX6_read_15 : decode cX6_read 15 = .ok (.bipush 6, 2) := by decide +kernel
theorem dX6_read_17 : decode cX6_read 17 = .ok (.imul, 1) := by decide +kernel
theorem dX6_read_18 : decode cX6_read 18 = .ok (.iload_n 2, 1) := by decide +kernel
theorem dX6_read_19 : decode cX6_read 19 = .ok (.iadd, 1) := by decide +kernel
theorem dX6_read_20 : decode cX6_read 20 = .ok (.bipush 6, 2) := by decide +kernel
theorem dX6_read_22 : decode cX6_read 22 = .ok (.imul, 1) := by decide +kernel
theorem dX6_read_23 : decode cX6_read 23 = .ok (.iload_n 3, 1) := by decide +kernel
theorem dX6_read_24 : decode cX6_read 24 = .ok (.iadd, 1) := by decide +kernel
theorem dX6_read_25 : decode cX6_read 25 = .ok (.iaload, 1) := by decide +kernel
theorem dX6_read_26 : decode cX6_read 26 = .ok (.goto 4, 3) := by decide +kernel
theorem dX6_read_29 : decode cX6_read 29 = .ok (.iconst 0, 1) := by decide +kernel
theorem dX6_read_30 : decode cX6_read 30 = .ok (.ireturn, 1) := by decide +kernel
theorem dX6_write_0 : decode cX6_write 0 = .ok (.aload_n 0, 1) := by decide +kernel
theorem dX6_write_1 : decode cX6_write 1 = .ok (.iload_n 1, 1) := by decide +kernel
theorem dX6_write_2 : decode cX6_write 2 = .ok (.iload_n 2, 1) := by decide +kernel
theorem dX6_write_3 : decode cX6_write 3 = .ok (.iload_n 3, 1) := by decide +kernel
theorem dX6_write_4 : decode cX6_write 4 = .ok (.invokevirtual 51, 3) := by decide +kernel
theorem dX6_write_7 : decode cX6_write 7 = .ok (.ifCond .eq 21, 3) := by decide +kernel
theorem dX6_write_10 : decode cX6_write 10 = .ok (.aload_n 0, 1) := by decide +kernel
theorem dX6_write_11 : decode cX6_write 11 = .ok (.getfield 19, 3) := by decide +kernel
theorem dX6_write_14 : decode cX6_write 14 = .ok (.iload_n 1, 1) := by decide +kernel
theorem dX6_write_15 : decode cX6_write 15 = .ok (.bipush 6, 2) := by decide +kernel
theorem dX6_write_17 : decode cX6_write 17 = .ok (.imul, 1) := by decide +kernel
theorem dX6_write_18 : decode cX6_write 18 = .ok (.iload_n 2, 1) := by decide +kernel
theorem dX6_write_19 : decode cX6_write 19 = .ok (.iadd, 1) := by decide +kernel
theorem dX6_write_20 : decode cX6_write 20 = .ok (.bipush 6, 2) := by decide +kernel
theorem dX6_write_22 : decode cX6_write 22 = .ok (.imul, 1) := by decide +kernel
theorem dX6_write_23 : decode cX6_write 23 = .ok (.iload_n 3, 1) := by decide +kernel
theorem dX6_write_24 : decode cX6_write 24 = .ok (.iadd, 1) := by decide +kernel
theorem dX6_write_25 : decode cX6_write 25 = .ok (.iload 4, 2) := by decide +kernel
theorem dX6_write_27 : decode cX6_write 27 = .ok (.iastore, 1) := by decide +kernel
theorem dX6_write_28 : decode cX6_write 28 = .ok (.return_, 1) := by decide +kernel
theorem dX6_copyTails_0 : decode cX6_copyTails 0 = .ok (.iconst 0, 1) := by decide +kernel
theorem dX6_copyTails_1 : decode cX6_copyTails 1 = .ok (.istore 4, 2) := by decide +kernel
theorem dX6_copyTails_3 : decode cX6_copyTails 3 = .ok (.iload 4, 2) := by decide +kernel
theorem dX6_copyTails_5 : decode cX6_copyTails 5 = .ok (.bipush 6, 2) := by decide +kernel
theorem dX6_copyTails_7 : decode cX6_copyTails 7 = .ok (.if_icmp .ge 22, 3) := by decide +kernel
theorem dX6_copyTails_10 : decode cX6_copyTails 10 = .ok (.aload_n 3, 1) := by decide +kernel
theorem dX6_copyTails_11 : decode cX6_copyTails 11 = .ok (.iload 4, 2) := by decide +kernel
theorem dX6_copyTails_13 : decode cX6_copyTails 13 = .ok (.aload_n 0, 1) := by decide +kernel
theorem dX6_copyTails_14 : decode cX6_copyTails 14 = .ok (.iload_n 1, 1) := by decide +kernel
theorem dX6_copyTails_15 : decode cX6_copyTails 15 = .ok (.iload_n 2, 1) := by decide +kernel
theorem dX6_copyTails_16 : decode cX6_copyTails 16 = .ok (.iload 4, 2) := by decide +kernel
theorem dX6_copyTails_18 : decode cX6_copyTails 18 = .ok (.invokevirtual 55, 3) := by decide +kernel
theorem dX6_copyTails_21 : decode cX6_copyTails 21 = .ok (.i2l, 1) := by decide +kernel
theorem dX6_copyTails_22 : decode cX6_copyTails 22 = .ok (.lastore, 1) := by decide +kernel
theorem dX6_copyTails_23 : decode cX6_copyTails 23 = .ok (.iinc 4 1, 3) := by decide +kernel
theorem dX6_copyTails_26 : decode cX6_copyTails 26 = .ok (.goto (-23), 3) := by decide +kernel
theorem dX6_copyTails_29 : decode cX6_copyTails 29 = .ok (.return_, 1) := by decide +kernel
theorem dX6_top_0 : decode cX6_top 0 = .ok (.aload_n 0, 1) := by decide +kernel
theorem dX6_top_1 : decode cX6_top 1 = .ok (.getfield 9, 3) := by decide +kernel
theorem dX6_top_4 : decode cX6_top 4 = .ok (.ifCond .le 17, 3) := by decide +kernel
theorem dX6_top_7 : decode cX6_top 7 = .ok (.aload_n 0, 1) := by decide +kernel
theorem dX6_top_8 : decode cX6_top 8 = .ok (.getfield 15, 3) := by decide +kernel
theorem dX6_top_11 : decode cX6_top 11 = .ok (.aload_n 0, 1) := by decide +kernel
theorem dX6_top_12 : decode cX6_top 12 = .ok (.getfield 9, 3) := by decide +kernel
theorem dX6_top_15 : decode cX6_top 15 = .ok (.iconst 1, 1) := by decide +kernel
theorem dX6_top_16 : decode cX6_top 16 = .ok (.isub, 1) := by decide +kernel
theorem dX6_top_17 : decode cX6_top 17 = .ok (.iaload, 1) := by decide +kernel
theorem dX6_top_18 : decode cX6_top 18 = .ok (.goto 4, 3) := by decide +kernel
theorem dX6_top_21 : decode cX6_top 21 = .ok (.iconst 0, 1) := by decide +kernel
theorem dX6_top_22 : decode cX6_top 22 = .ok (.ireturn, 1) := by decide +kernel
theorem dX6_tailsAboveZero_0 : decode cX6_tailsAboveZero 0 = .ok (.iconst 0, 1) := by decide +kernel
theorem dX6_tailsAboveZero_1 : decode cX6_tailsAboveZero 1 = .ok (.istore_n 1, 1) := by decide +kernel
theorem dX6_tailsAboveZero_2 : decode cX6_tailsAboveZero 2 = .ok (.iconst 0, 1) := by decide +kernel
theorem dX6_tailsAboveZero_3 : decode cX6_tailsAboveZero 3 = .ok (.istore_n 2, 1) := by decide +kernel
theorem dX6_tailsAboveZero_4 : decode cX6_tailsAboveZero 4 = .ok (.iload_n 2, 1) := by decide +kernel
theorem dX6_tailsAboveZero_5 : decode cX6_tailsAboveZero 5 = .ok (.aload_n 0, 1) := by decide +kernel
theorem dX6_tailsAboveZero_6 : decode cX6_tailsAboveZero 6 = .ok (.getfield 19, 3) := by decide +kernel
theorem dX6_tailsAboveZero_9 : decode cX6_tailsAboveZero 9 = .ok (.arraylength, 1) := by decide +kernel
theorem dX6_tailsAboveZero_10 : decode cX6_tailsAboveZero 10 = .ok (.if_icmp .ge 26, 3) := by decide +kernel
theorem dX6_tailsAboveZero_13 : decode cX6_tailsAboveZero 13 = .ok (.iload_n 1, 1) := by decide +kernel
theorem dX6_tailsAboveZero_14 : decode cX6_tailsAboveZero 14 = .ok (.aload_n 0, 1) := by decide +kernel
theorem dX6_tailsAboveZero_15 : decode cX6_tailsAboveZero 15 = .ok (.getfield 19, 3) := by decide +kernel
theorem dX6_tailsAboveZero_18 : decode cX6_tailsAboveZero 18 = .ok (.iload_n 2, 1) := by decide +kernel
theorem dX6_tailsAboveZero_19 : decode cX6_tailsAboveZero 19 = .ok (.iaload, 1) := by decide +kernel
theorem dX6_tailsAboveZero_20 : decode cX6_tailsAboveZero 20 = .ok (.ifCond .le 7, 3) := by decide +kernel
theorem dX6_tailsAboveZero_23 : decode cX6_tailsAboveZero 23 = .ok (.iconst 1, 1) := by decide +kernel
theorem dX6_tailsAboveZero_24 : decode cX6_tailsAboveZero 24 = .ok (.goto 4, 3) := by decide +kernel
theorem dX6_tailsAboveZero_27 : decode cX6_tailsAboveZero 27 = .ok (.iconst 0, 1) := by decide +kernel
theorem dX6_tailsAboveZero_28 : decode cX6_tailsAboveZero 28 = .ok (.iadd, 1) := by decide +kernel
theorem dX6_tailsAboveZero_29 : decode cX6_tailsAboveZero 29 = .ok (.istore_n 1, 1) := by decide +kernel
theorem dX6_tailsAboveZero_30 : decode cX6_tailsAboveZero 30 = .ok (.iinc 2 1, 3) := by decide +kernel
theorem dX6_tailsAboveZero_33 : decode cX6_tailsAboveZero 33 = .ok (.goto (-29), 3) := by decide +kernel
theorem dX6_tailsAboveZero_36 : decode cX6_tailsAboveZero 36 = .ok (.iload_n 1, 1) := by decide +kernel
theorem dX6_tailsAboveZero_37 : decode cX6_tailsAboveZero 37 = .ok (.ireturn, 1) := by decide +kernel
theorem dX6_isCentral_0 : decode cX6_isCentral 0 = .ok (.iconst 0, 1) := by decide +kernel
theorem dX6_isCentral_1 : decode cX6_isCentral 1 = .ok (.istore_n 2, 1) := by decide +kernel
theorem dX6_isCentral_2 : decode cX6_isCentral 2 = .ok (.iload_n 2, 1) := by decide +kernel
theorem dX6_isCentral_3 : decode cX6_isCentral 3 = .ok (.aload_n 0, 1) := by decide +kernel
theorem dX6_isCentral_4 : decode cX6_isCentral 4 = .ok (.getfield 9, 3) := by decide +kernel
theorem dX6_isCentral_7 : decode cX6_isCentral 7 = .ok (.if_icmp .ge 45, 3) := by decide +kernel
theorem dX6_isCentral_10 : decode cX6_isCentral 10 = .ok (.iconst 0, 1) := by decide +kernel
theorem dX6_isCentral_11 : decode cX6_isCentral 11 = .ok (.istore_n 3, 1) := by decide +kernel
theorem dX6_isCentral_12 : decode cX6_isCentral 12 = .ok (.iload_n 3, 1) := by decide +kernel
theorem dX6_isCentral_13 : decode cX6_isCentral 13 = .ok (.aload_n 0, 1) := by decide +kernel
theorem dX6_isCentral_14 : decode cX6_isCentral 14 = .ok (.getfield 9, 3) := by decide +kernel
theorem dX6_isCentral_17 : decode cX6_isCentral 17 = .ok (.if_icmp .ge 29, 3) := by decide +kernel
theorem dX6_isCentral_20 : decode cX6_isCentral 20 = .ok (.aload_n 0, 1) := by decide +kernel
theorem dX6_isCentral_21 : decode cX6_isCentral 21 = .ok (.iload_n 2, 1) := by decide +kernel
theorem dX6_isCentral_22 : decode cX6_isCentral 22 = .ok (.iload_n 1, 1) := by decide +kernel
theorem dX6_isCentral_23 : decode cX6_isCentral 23 = .ok (.invokestatic 59, 3) := by decide +kernel
theorem dX6_isCentral_26 : decode cX6_isCentral 26 = .ok (.iload_n 2, 1) := by decide +kernel
theorem dX6_isCentral_27 : decode cX6_isCentral 27 = .ok (.iload_n 1, 1) := by decide +kernel
theorem dX6_isCentral_28 : decode cX6_isCentral 28 = .ok (.invokestatic 65, 3) := by decide +kernel
theorem dX6_isCentral_31 : decode cX6_isCentral 31 = .ok (.iload_n 3, 1) := by decide +kernel
theorem dX6_isCentral_32 : decode cX6_isCentral 32 = .ok (.invokevirtual 55, 3) := by decide +kernel
theorem dX6_isCentral_35 : decode cX6_isCentral 35 = .ok (.ifCond .eq 5, 3) := by decide +kernel
theorem dX6_isCentral_38 : decode cX6_isCentral 38 = .ok (.iconst 0, 1) := by decide +kernel
theorem dX6_isCentral_39 : decode cX6_isCentral 39 = .ok (.ireturn, 1) := by decide +kernel
theorem dX6_isCentral_40 : decode cX6_isCentral 40 = .ok (.iinc 3 1, 3) := by decide +kernel
theorem dX6_isCentral_43 : decode cX6_isCentral 43 = .ok (.goto (-31), 3) := by decide +kernel
theorem dX6_isCentral_46 : decode cX6_isCentral 46 = .ok (.iinc 2 1, 3) := by decide +kernel
theorem dX6_isCentral_49 : decode cX6_isCentral 49 = .ok (.goto (-47), 3) := by decide +kernel
theorem dX6_isCentral_52 : decode cX6_isCentral 52 = .ok (.iconst 1, 1) := by decide +kernel
theorem dX6_isCentral_53 : decode cX6_isCentral 53 = .ok (.ireturn, 1) := by decide +kernel
theorem dX6_countOf_0 : decode cX6_countOf 0 = .ok (.iconst 0, 1) := by decide +kernel
theorem dX6_countOf_1 : decode cX6_countOf 1 = .ok (.istore_n 2, 1) := by decide +kernel
theorem dX6_countOf_2 : decode cX6_countOf 2 = .ok (.iconst 0, 1) := by decide +kernel
theorem dX6_countOf_3 : decode cX6_countOf 3 = .ok (.istore_n 3, 1) := by decide +kernel
theorem dX6_countOf_4 : decode cX6_countOf 4 = .ok (.iload_n 3, 1) := by decide +kernel
theorem dX6_countOf_5 : decode cX6_countOf 5 = .ok (.aload_n 0, 1) := by decide +kernel
theorem dX6_countOf_6 : decode cX6_countOf 6 = .ok (.getfield 9, 3) := by decide +kernel
theorem dX6_countOf_9 : decode cX6_countOf 9 = .ok (.if_icmp .ge 27, 3) := by decide +kernel
theorem dX6_countOf_12 : decode cX6_countOf 12 = .ok (.iload_n 2, 1) := by decide +kernel
theorem dX6_countOf_13 : decode cX6_countOf 13 = .ok (.aload_n 0, 1) := by decide +kernel
theorem dX6_countOf_14 : decode cX6_countOf 14 = .ok (.getfield 15, 3) := by decide +kernel
theorem dX6_countOf_17 : decode cX6_countOf 17 = .ok (.iload_n 3, 1) := by decide +kernel
theorem dX6_countOf_18 : decode cX6_countOf 18 = .ok (.iaload, 1) := by decide +kernel
theorem dX6_countOf_19 : decode cX6_countOf 19 = .ok (.iload_n 1, 1) := by decide +kernel
theorem dX6_countOf_20 : decode cX6_countOf 20 = .ok (.if_icmp .ne 7, 3) := by decide +kernel
theorem dX6_countOf_23 : decode cX6_countOf 23 = .ok (.iconst 1, 1) := by decide +kernel
theorem dX6_countOf_24 : decode cX6_countOf 24 = .ok (.goto 4, 3) := by decide +kernel
theorem dX6_countOf_27 : decode cX6_countOf 27 = .ok (.iconst 0, 1) := by decide +kernel
theorem dX6_countOf_28 : decode cX6_countOf 28 = .ok (.iadd, 1) := by decide +kernel
theorem dX6_countOf_29 : decode cX6_countOf 29 = .ok (.istore_n 2, 1) := by decide +kernel
theorem dX6_countOf_30 : decode cX6_countOf 30 = .ok (.iinc 3 1, 3) := by decide +kernel
theorem dX6_countOf_33 : decode cX6_countOf 33 = .ok (.goto (-29), 3) := by decide +kernel
theorem dX6_countOf_36 : decode cX6_countOf 36 = .ok (.iload_n 2, 1) := by decide +kernel
theorem dX6_countOf_37 : decode cX6_countOf 37 = .ok (.ireturn, 1) := by decide +kernel
theorem dX7_init_0 : decode cX7_init 0 = .ok (.aload_n 0, 1) := by decide +kernel
theorem dX7_init_1 : decode cX7_init 1 = .ok (.invokespecial 3, 3) := by decide +kernel
theorem dX7_init_4 : decode cX7_init 4 = .ok (.aload_n 0, 1) := by decide +kernel
theorem dX7_init_5 : decode cX7_init 5 = .ok (.new 9, 3) := by decide +kernel
theorem dX7_init_8 : decode cX7_init 8 = .ok (.dup, 1) := by decide +kernel
theorem dX7_init_9 : decode cX7_init 9 = .ok (.invokespecial 11, 3) := by decide +kernel
theorem dX7_init_12 : decode cX7_init 12 = .ok (.putfield 12, 3) := by decide +kernel
theorem dX7_init_15 : decode cX7_init 15 = .ok (.aload_n 0, 1) := by decide +kernel
theorem dX7_init_16 : decode cX7_init 16 = .ok (.new 9, 3) := by decide +kernel
theorem dX7_init_19 : decode cX7_init 19 = .ok (.dup, 1) := by decide +kernel
theorem dX7_init_20 : decode cX7_init 20 = .ok (.invokespecial 11, 3) := by decide +kernel
theorem dX7_init_23 : decode cX7_init 23 = .ok (.putfield 18, 3) := by decide +kernel
theorem dX7_init_26 : decode cX7_init 26 = .ok (.aload_n 0, 1) := by decide +kernel
theorem dX7_init_27 : decode cX7_init 27 = .ok (.bipush 6, 2) := by decide +kernel
theorem dX7_init_29 : decode cX7_init 29 = .ok (.anewarray 21, 3) := by decide +kernel
theorem dX7_init_32 : decode cX7_init 32 = .ok (.putfield 23, 3) := by decide +kernel
theorem dX7_init_35 : decode cX7_init 35 = .ok (.aload_n 0, 1) := by decide +kernel
theorem dX7_init_36 : decode cX7_init 36 = .ok (.bipush 64, 2) := by decide +kernel
theorem dX7_init_38 : decode cX7_init 38 = .ok (.newarray .long, 2) := by decide +kernel
theorem dX7_init_40 : decode cX7_init 40 = .ok (.putfield 27, 3) := by decide +kernel
theorem dX7_init_43 : decode cX7_init 43 = .ok (.aload_n 0, 1) := by decide +kernel
theorem dX7_init_44 : decode cX7_init 44 = .ok (.bipush 6, 2) := by decide +kernel
theorem dX7_init_46 : decode cX7_init 46 = .ok (.newarray .long, 2) := by decide +kernel
theorem dX7_init_48 : decode cX7_init 48 = .ok (.putfield 31, 3) := by decide +kernel
theorem dX7_init_51 : decode cX7_init 51 = .ok (.aload_n 0, 1) := by decide +kernel
theorem dX7_init_52 : decode cX7_init 52 = .ok (.bipush 6, 2) := by decide +kernel
theorem dX7_init_54 : decode cX7_init 54 = .ok (.newarray .long, 2) := by decide +kernel
theorem dX7_init_56 : decode cX7_init 56 = .ok (.putfield 34, 3) := by decide +kernel
theorem dX7_init_59 : decode cX7_init 59 = .ok (.aload_n 0, 1) := by decide +kernel
theorem dX7_init_60 : decode cX7_init 60 = .ok (.bipush 6, 2) := by decide +kernel
theorem dX7_init_62 : decode cX7_init 62 = .ok (.newarray .long, 2) := by decide +kernel
theorem dX7_init_64 : decode cX7_init 64 = .ok (.putfield 37, 3) := by decide +kernel
theorem dX7_init_67 : decode cX7_init 67 = .ok (.aload_n 0, 1) := by decide +kernel
theorem dX7_init_68 : decode cX7_init 68 = .ok (.iconst 0, 1) := by decide +kernel
theorem dX7_init_69 : decode cX7_init 69 = .ok (.putfield 40, 3) := by decide +kernel
theorem dX7_init_72 : decode cX7_init 72 = .ok (.aload_n 0, 1) := by decide +kernel
theorem dX7_init_73 : decode cX7_init 73 = .ok (.iconst 0, 1) := by decide +kernel
theorem dX7_init_74 : decode cX7_init 74 = .ok (.putfield 44, 3) := by decide +kernel
theorem dX7_init_77 : decode cX7_init 77 = .ok (.aload_n 0, 1) := by decide +kernel
