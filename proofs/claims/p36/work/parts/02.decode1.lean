theorem dX0_init_0 : decode cX0_init 0 = .ok (.aload_n 0, 1) := by decide +kernel
theorem dX0_init_1 : decode cX0_init 1 = .ok (.invokespecial 3, 3) := by decide +kernel
theorem dX0_init_4 : decode cX0_init 4 = .ok (.aload_n 0, 1) := by decide +kernel
theorem dX0_init_5 : decode cX0_init 5 = .ok (.bipush 64, 2) := by decide +kernel
theorem dX0_init_7 : decode cX0_init 7 = .ok (.newarray .long, 2) := by decide +kernel
theorem dX0_init_9 : decode cX0_init 9 = .ok (.putfield 9, 3) := by decide +kernel
theorem dX0_init_12 : decode cX0_init 12 = .ok (.aload_n 0, 1) := by decide +kernel
theorem dX0_init_13 : decode cX0_init 13 = .ok (.bipush 64, 2) := by decide +kernel
theorem dX0_init_15 : decode cX0_init 15 = .ok (.newarray .long, 2) := by decide +kernel
theorem dX0_init_17 : decode cX0_init 17 = .ok (.putfield 15, 3) := by decide +kernel
theorem dX0_init_20 : decode cX0_init 20 = .ok (.aload_n 0, 1) := by decide +kernel
theorem dX0_init_21 : decode cX0_init 21 = .ok (.bipush 6, 2) := by decide +kernel
theorem dX0_init_23 : decode cX0_init 23 = .ok (.newarray .long, 2) := by decide +kernel
theorem dX0_init_25 : decode cX0_init 25 = .ok (.putfield 18, 3) := by decide +kernel
theorem dX0_init_28 : decode cX0_init 28 = .ok (.aload_n 0, 1) := by decide +kernel
theorem dX0_init_29 : decode cX0_init 29 = .ok (.bipush 6, 2) := by decide +kernel
theorem dX0_init_31 : decode cX0_init 31 = .ok (.newarray .long, 2) := by decide +kernel
theorem dX0_init_33 : decode cX0_init 33 = .ok (.putfield 21, 3) := by decide +kernel
theorem dX0_init_36 : decode cX0_init 36 = .ok (.aload_n 0, 1) := by decide +kernel
theorem dX0_init_37 : decode cX0_init 37 = .ok (.bipush 6, 2) := by decide +kernel
theorem dX0_init_39 : decode cX0_init 39 = .ok (.newarray .long, 2) := by decide +kernel
theorem dX0_init_41 : decode cX0_init 41 = .ok (.putfield 24, 3) := by decide +kernel
theorem dX0_init_44 : decode cX0_init 44 = .ok (.aload_n 0, 1) := by decide +kernel
theorem dX0_init_45 : decode cX0_init 45 = .ok (.bipush 6, 2) := by decide +kernel
theorem dX0_init_47 : decode cX0_init 47 = .ok (.newarray .long, 2) := by decide +kernel
theorem dX0_init_49 : decode cX0_init 49 = .ok (.putfield 27, 3) := by decide +kernel
theorem dX0_init_52 : decode cX0_init 52 = .ok (.aload_n 0, 1) := by decide +kernel
theorem dX0_init_53 : decode cX0_init 53 = .ok (.bipush 6, 2) := by decide +kernel
theorem dX0_init_55 : decode cX0_init 55 = .ok (.newarray .long, 2) := by decide +kernel
theorem dX0_init_57 : decode cX0_init 57 = .ok (.putfield 30, 3) := by decide +kernel
theorem dX0_init_60 : decode cX0_init 60 = .ok (.aload_n 0, 1) := by decide +kernel
theorem dX0_init_61 : decode cX0_init 61 = .ok (.aload_n 1, 1) := by decide +kernel
theorem dX0_init_62 : decode cX0_init 62 = .ok (.putfield 33, 3) := by decide +kernel
theorem dX0_init_65 : decode cX0_init 65 = .ok (.return_, 1) := by decide +kernel
theorem dX0_copy_0 : decode cX0_copy 0 = .ok (.aload_n 0, 1) := by decide +kernel
theorem dX0_copy_1 : decode cX0_copy 1 = .ok (.iconst 0, 1) := by decide +kernel
theorem dX0_copy_2 : decode cX0_copy 2 = .ok (.aload_n 1, 1) := by decide +kernel
theorem dX0_copy_3 : decode cX0_copy 3 = .ok (.iconst 0, 1) := by decide +kernel
theorem dX0_copy_4 : decode cX0_copy 4 = .ok (.bipush 6, 2) := by decide +kernel
theorem dX0_copy_6 : decode cX0_copy 6 = .ok (.invokestatic 37, 3) := by decide +kernel
theorem dX0_copy_9 : decode cX0_copy 9 = .ok (.return_, 1) := by decide +kernel
theorem dX0_areSame_0 : decode cX0_areSame 0 = .ok (.iconst 0, 1) := by decide +kernel
theorem dX0_areSame_1 : decode cX0_areSame 1 = .ok (.istore_n 2, 1) := by decide +kernel
theorem dX0_areSame_2 : decode cX0_areSame 2 = .ok (.iload_n 2, 1) := by decide +kernel
theorem dX0_areSame_3 : decode cX0_areSame 3 = .ok (.bipush 6, 2) := by decide +kernel
theorem dX0_areSame_5 : decode cX0_areSame 5 = .ok (.if_icmp .ge 21, 3) := by decide +kernel
theorem dX0_areSame_8 : decode cX0_areSame 8 = .ok (.aload_n 0, 1) := by decide +kernel
theorem dX0_areSame_9 : decode cX0_areSame 9 = .ok (.iload_n 2, 1) := by decide +kernel
theorem dX0_areSame_10 : decode cX0_areSame 10 = .ok (.laload, 1) := by decide +kernel
theorem dX0_areSame_11 : decode cX0_areSame 11 = .ok (.aload_n 1, 1) := by decide +kernel
theorem dX0_areSame_12 : decode cX0_areSame 12 = .ok (.iload_n 2, 1) := by decide +kernel
theorem dX0_areSame_13 : decode cX0_areSame 13 = .ok (.laload, 1) := by decide +kernel
theorem dX0_areSame_14 : decode cX0_areSame 14 = .ok (.lcmp, 1) := by decide +kernel
theorem dX0_areSame_15 : decode cX0_areSame 15 = .ok (.ifCond .eq 5, 3) := by decide +kernel
theorem dX0_areSame_18 : decode cX0_areSame 18 = .ok (.iconst 0, 1) := by decide +kernel
theorem dX0_areSame_19 : decode cX0_areSame 19 = .ok (.ireturn, 1) := by decide +kernel
theorem dX0_areSame_20 : decode cX0_areSame 20 = .ok (.iinc 2 1, 3) := by decide +kernel
theorem dX0_areSame_23 : decode cX0_areSame 23 = .ok (.goto (-21), 3) := by decide +kernel
theorem dX0_areSame_26 : decode cX0_areSame 26 = .ok (.iconst 1, 1) := by decide +kernel
theorem dX0_areSame_27 : decode cX0_areSame 27 = .ok (.ireturn, 1) := by decide +kernel
theorem dX0_isOne_0 : decode cX0_isOne 0 = .ok (.aload_n 0, 1) := by decide +kernel
theorem dX0_isOne_1 : decode cX0_isOne 1 = .ok (.lconst 0, 1) := by decide +kernel
theorem dX0_isOne_2 : decode cX0_isOne 2 = .ok (.invokestatic 43, 3) := by decide +kernel
theorem dX0_isOne_5 : decode cX0_isOne 5 = .ok (.ireturn, 1) := by decide +kernel
theorem dX0_isWithin_0 : decode cX0_isWithin 0 = .ok (.iconst 0, 1) := by decide +kernel
theorem dX0_isWithin_1 : decode cX0_isWithin 1 = .ok (.istore_n 3, 1) := by decide +kernel
theorem dX0_isWithin_2 : decode cX0_isWithin 2 = .ok (.iload_n 3, 1) := by decide +kernel
theorem dX0_isWithin_3 : decode cX0_isWithin 3 = .ok (.bipush 6, 2) := by decide +kernel
theorem dX0_isWithin_5 : decode cX0_isWithin 5 = .ok (.if_icmp .ge 28, 3) := by decide +kernel
theorem dX0_isWithin_8 : decode cX0_isWithin 8 = .ok (.aload_n 0, 1) := by decide +kernel
theorem dX0_isWithin_9 : decode cX0_isWithin 9 = .ok (.iload_n 3, 1) := by decide +kernel
theorem dX0_isWithin_10 : decode cX0_isWithin 10 = .ok (.laload, 1) := by decide +kernel
theorem dX0_isWithin_11 : decode cX0_isWithin 11 = .ok (.lload_n 1, 1) := by decide +kernel
theorem dX0_isWithin_12 : decode cX0_isWithin 12 = .ok (.lneg, 1) := by decide +kernel
theorem dX0_isWithin_13 : decode cX0_isWithin 13 = .ok (.lcmp, 1) := by decide +kernel
theorem dX0_isWithin_14 : decode cX0_isWithin 14 = .ok (.ifCond .lt 11, 3) := by decide +kernel
theorem dX0_isWithin_17 : decode cX0_isWithin 17 = .ok (.aload_n 0, 1) := by decide +kernel
theorem dX0_isWithin_18 : decode cX0_isWithin 18 = .ok (.iload_n 3, 1) := by decide +kernel
theorem dX0_isWithin_19 : decode cX0_isWithin 19 = .ok (.laload, 1) := by decide +kernel
theorem dX0_isWithin_20 : decode cX0_isWithin 20 = .ok (.lload_n 1, 1) := by decide +kernel
theorem dX0_isWithin_21 : decode cX0_isWithin 21 = .ok (.lcmp, 1) := by decide +kernel
theorem dX0_isWithin_22 : decode cX0_isWithin 22 = .ok (.ifCond .le 5, 3) := by decide +kernel
theorem dX0_isWithin_25 : decode cX0_isWithin 25 = .ok (.iconst 0, 1) := by decide +kernel
theorem dX0_isWithin_26 : decode cX0_isWithin 26 = .ok (.ireturn, 1) := by decide +kernel
theorem dX0_isWithin_27 : decode cX0_isWithin 27 = .ok (.iinc 3 1, 3) := by decide +kernel
theorem dX0_isWithin_30 : decode cX0_isWithin 30 = .ok (.goto (-28), 3) := by decide +kernel
theorem dX0_isWithin_33 : decode cX0_isWithin 33 = .ok (.iconst 1, 1) := by decide +kernel
theorem dX0_isWithin_34 : decode cX0_isWithin 34 = .ok (.ireturn, 1) := by decide +kernel
theorem dX0_product_0 : decode cX0_product 0 = .ok (.iconst 0, 1) := by decide +kernel
theorem dX0_product_1 : decode cX0_product 1 = .ok (.istore 4, 2) := by decide +kernel
theorem dX0_product_3 : decode cX0_product 3 = .ok (.iload 4, 2) := by decide +kernel
theorem dX0_product_5 : decode cX0_product 5 = .ok (.bipush 6, 2) := by decide +kernel
theorem dX0_product_7 : decode cX0_product 7 = .ok (.if_icmp .ge 38, 3) := by decide +kernel
theorem dX0_product_10 : decode cX0_product 10 = .ok (.aload_n 0, 1) := by decide +kernel
theorem dX0_product_11 : decode cX0_product 11 = .ok (.getfield 9, 3) := by decide +kernel
theorem dX0_product_14 : decode cX0_product 14 = .ok (.iload 4, 2) := by decide +kernel
theorem dX0_product_16 : decode cX0_product 16 = .ok (.aload_n 2, 1) := by decide +kernel
theorem dX0_product_17 : decode cX0_product 17 = .ok (.iload 4, 2) := by decide +kernel
theorem dX0_product_19 : decode cX0_product 19 = .ok (.laload, 1) := by decide +kernel
theorem dX0_product_20 : decode cX0_product 20 = .ok (.invokestatic 53, 3) := by decide +kernel
theorem dX0_product_23 : decode cX0_product 23 = .ok (.aload_n 0, 1) := by decide +kernel
theorem dX0_product_24 : decode cX0_product 24 = .ok (.getfield 9, 3) := by decide +kernel
theorem dX0_product_27 : decode cX0_product 27 = .ok (.bipush 6, 2) := by decide +kernel
theorem dX0_product_29 : decode cX0_product 29 = .ok (.iload 4, 2) := by decide +kernel
theorem dX0_product_31 : decode cX0_product 31 = .ok (.iadd, 1) := by decide +kernel
theorem dX0_product_32 : decode cX0_product 32 = .ok (.aload_n 3, 1) := by decide +kernel
theorem dX0_product_33 : decode cX0_product 33 = .ok (.iload 4, 2) := by decide +kernel
theorem dX0_product_35 : decode cX0_product 35 = .ok (.laload, 1) := by decide +kernel
theorem dX0_product_36 : decode cX0_product 36 = .ok (.invokestatic 53, 3) := by decide +kernel
theorem dX0_product_39 : decode cX0_product 39 = .ok (.iinc 4 1, 3) := by decide +kernel
theorem dX0_product_42 : decode cX0_product 42 = .ok (.goto (-39), 3) := by decide +kernel
theorem dX0_product_45 : decode cX0_product 45 = .ok (.iconst 0, 1) := by decide +kernel
theorem dX0_product_46 : decode cX0_product 46 = .ok (.istore 4, 2) := by decide +kernel
theorem dX0_product_48 : decode cX0_product 48 = .ok (.iload 4, 2) := by decide +kernel
theorem dX0_product_50 : decode cX0_product 50 = .ok (.bipush 6, 2) := by decide +kernel
theorem dX0_product_52 : decode cX0_product 52 = .ok (.if_icmp .ge 30, 3) := by decide +kernel
theorem dX0_product_55 : decode cX0_product 55 = .ok (.aload_n 1, 1) := by decide +kernel
theorem dX0_product_56 : decode cX0_product 56 = .ok (.iload 4, 2) := by decide +kernel
theorem dX0_product_58 : decode cX0_product 58 = .ok (.aload_n 0, 1) := by decide +kernel
theorem dX0_product_59 : decode cX0_product 59 = .ok (.getfield 33, 3) := by decide +kernel
theorem dX0_product_62 : decode cX0_product 62 = .ok (.getfield 59, 3) := by decide +kernel
theorem dX0_product_65 : decode cX0_product 65 = .ok (.iload 4, 2) := by decide +kernel
theorem dX0_product_67 : decode cX0_product 67 = .ok (.aaload, 1) := by decide +kernel
theorem dX0_product_68 : decode cX0_product 68 = .ok (.aload_n 0, 1) := by decide +kernel
theorem dX0_product_69 : decode cX0_product 69 = .ok (.getfield 9, 3) := by decide +kernel
theorem dX0_product_72 : decode cX0_product 72 = .ok (.invokevirtual 63, 3) := by decide +kernel
theorem dX0_product_75 : decode cX0_product 75 = .ok (.lastore, 1) := by decide +kernel
theorem dX0_product_76 : decode cX0_product 76 = .ok (.iinc 4 1, 3) := by decide +kernel
theorem dX0_product_79 : decode cX0_product 79 = .ok (.goto (-31), 3) := by decide +kernel
theorem dX0_product_82 : decode cX0_product 82 = .ok (.return_, 1) := by decide +kernel
theorem dX0_inverse_0 : decode cX0_inverse 0 = .ok (.iconst 0, 1) := by decide +kernel
theorem dX0_inverse_1 : decode cX0_inverse 1 = .ok (.istore_n 3, 1) := by decide +kernel
theorem dX0_inverse_2 : decode cX0_inverse 2 = .ok (.iload_n 3, 1) := by decide +kernel
theorem dX0_inverse_3 : decode cX0_inverse 3 = .ok (.bipush 6, 2) := by decide +kernel
theorem dX0_inverse_5 : decode cX0_inverse 5 = .ok (.if_icmp .ge 32, 3) := by decide +kernel
theorem dX0_inverse_8 : decode cX0_inverse 8 = .ok (.aload_n 0, 1) := by decide +kernel
theorem dX0_inverse_9 : decode cX0_inverse 9 = .ok (.getfield 9, 3) := by decide +kernel
theorem dX0_inverse_12 : decode cX0_inverse 12 = .ok (.iload_n 3, 1) := by decide +kernel
theorem dX0_inverse_13 : decode cX0_inverse 13 = .ok (.aload_n 2, 1) := by decide +kernel
theorem dX0_inverse_14 : decode cX0_inverse 14 = .ok (.iload_n 3, 1) := by decide +kernel
theorem dX0_inverse_15 : decode cX0_inverse 15 = .ok (.laload, 1) := by decide +kernel
theorem dX0_inverse_16 : decode cX0_inverse 16 = .ok (.invokestatic 53, 3) := by decide +kernel
theorem dX0_inverse_19 : decode cX0_inverse 19 = .ok (.aload_n 0, 1) := by decide +kernel
theorem dX0_inverse_20 : decode cX0_inverse 20 = .ok (.getfield 9, 3) := by decide +kernel
theorem dX0_inverse_23 : decode cX0_inverse 23 = .ok (.bipush 6, 2) := by decide +kernel
theorem dX0_inverse_25 : decode cX0_inverse 25 = .ok (.iload_n 3, 1) := by decide +kernel
theorem dX0_inverse_26 : decode cX0_inverse 26 = .ok (.iadd, 1) := by decide +kernel
theorem dX0_inverse_27 : decode cX0_inverse 27 = .ok (.lconst 0, 1) := by decide +kernel
theorem dX0_inverse_28 : decode cX0_inverse 28 = .ok (.invokestatic 53, 3) := by decide +kernel
theorem dX0_inverse_31 : decode cX0_inverse 31 = .ok (.iinc 3 1, 3) := by decide +kernel
theorem dX0_inverse_34 : decode cX0_inverse 34 = .ok (.goto (-32), 3) := by decide +kernel
theorem dX0_inverse_37 : decode cX0_inverse 37 = .ok (.iconst 0, 1) := by decide +kernel
theorem dX0_inverse_38 : decode cX0_inverse 38 = .ok (.istore_n 3, 1) := by decide +kernel
theorem dX0_inverse_39 : decode cX0_inverse 39 = .ok (.iload_n 3, 1) := by decide +kernel
theorem dX0_inverse_40 : decode cX0_inverse 40 = .ok (.bipush 6, 2) := by decide +kernel
theorem dX0_inverse_42 : decode cX0_inverse 42 = .ok (.if_icmp .ge 43, 3) := by decide +kernel
theorem dX0_inverse_45 : decode cX0_inverse 45 = .ok (.aload_n 1, 1) := by decide +kernel
theorem dX0_inverse_46 : decode cX0_inverse 46 = .ok (.iload_n 3, 1) := by decide +kernel
theorem dX0_inverse_47 : decode cX0_inverse 47 = .ok (.aload_n 0, 1) := by decide +kernel
theorem dX0_inverse_48 : decode cX0_inverse 48 = .ok (.getfield 33, 3) := by decide +kernel
theorem dX0_inverse_51 : decode cX0_inverse 51 = .ok (.getfield 59, 3) := by decide +kernel
theorem dX0_inverse_54 : decode cX0_inverse 54 = .ok (.iload_n 3, 1) := by decide +kernel
theorem dX0_inverse_55 : decode cX0_inverse 55 = .ok (.aaload, 1) := by decide +kernel
theorem dX0_inverse_56 : decode cX0_inverse 56 = .ok (.aload_n 0, 1) := by decide +kernel
theorem dX0_inverse_57 : decode cX0_inverse 57 = .ok (.getfield 9, 3) := by decide +kernel
theorem dX0_inverse_60 : decode cX0_inverse 60 = .ok (.invokevirtual 63, 3) := by decide +kernel
theorem dX0_inverse_63 : decode cX0_inverse 63 = .ok (.lneg, 1) := by decide +kernel
theorem dX0_inverse_64 : decode cX0_inverse 64 = .ok (.lastore, 1) := by decide +kernel
theorem dX0_inverse_65 : decode cX0_inverse 65 = .ok (.aload_n 0, 1) := by decide +kernel
theorem dX0_inverse_66 : decode cX0_inverse 66 = .ok (.getfield 9, 3) := by decide +kernel
theorem dX0_inverse_69 : decode cX0_inverse 69 = .ok (.bipush 6, 2) := by decide +kernel
theorem dX0_inverse_71 : decode cX0_inverse 71 = .ok (.iload_n 3, 1) := by decide +kernel
theorem dX0_inverse_72 : decode cX0_inverse 72 = .ok (.iadd, 1) := by decide +kernel
theorem dX0_inverse_73 : decode cX0_inverse 73 = .ok (.aload_n 1, 1) := by decide +kernel
theorem dX0_inverse_74 : decode cX0_inverse 74 = .ok (.iload_n 3, 1) := by decide +kernel
theorem dX0_inverse_75 : decode cX0_inverse 75 = .ok (.laload, 1) := by decide +kernel
theorem dX0_inverse_76 : decode cX0_inverse 76 = .ok (.invokestatic 53, 3) := by decide +kernel
theorem dX0_inverse_79 : decode cX0_inverse 79 = .ok (.iinc 3 1, 3) := by decide +kernel
theorem dX0_inverse_82 : decode cX0_inverse 82 = .ok (.goto (-43), 3) := by decide +kernel
theorem dX0_inverse_85 : decode cX0_inverse 85 = .ok (.return_, 1) := by decide +kernel
theorem dX1_init_0 : decode cX1_init 0 = .ok (.aload_n 0, 1) := by decide +kernel
theorem dX1_init_1 : decode cX1_init 1 = .ok (.invokespecial 3, 3) := by decide +kernel
theorem dX1_init_4 : decode cX1_init 4 = .ok (.aload_n 0, 1) := by decide +kernel
theorem dX1_init_5 : decode cX1_init 5 = .ok (.iconst 0, 1) := by decide +kernel
theorem dX1_init_6 : decode cX1_init 6 = .ok (.putfield 9, 3) := by decide +kernel
theorem dX1_init_9 : decode cX1_init 9 = .ok (.aload_n 0, 1) := by decide +kernel
theorem dX1_init_10 : decode cX1_init 10 = .ok (.iconst 5, 1) := by decide +kernel
theorem dX1_init_11 : decode cX1_init 11 = .ok (.newarray .int, 2) := by decide +kernel
theorem dX1_init_13 : decode cX1_init 13 = .ok (.putfield 15, 3) := by decide +kernel
theorem dX1_init_16 : decode cX1_init 16 = .ok (.aload_n 0, 1) := by decide +kernel
theorem dX1_init_17 : decode cX1_init 17 = .ok (.sipush 6006, 3) := by decide +kernel
theorem dX1_init_20 : decode cX1_init 20 = .ok (.newarray .long, 2) := by decide +kernel
theorem dX1_init_22 : decode cX1_init 22 = .ok (.putfield 19, 3) := by decide +kernel
theorem dX1_init_25 : decode cX1_init 25 = .ok (.aload_n 0, 1) := by decide +kernel
theorem dX1_init_26 : decode cX1_init 26 = .ok (.sipush 4096, 3) := by decide +kernel
theorem dX1_init_29 : decode cX1_init 29 = .ok (.newarray .int, 2) := by decide +kernel
theorem dX1_init_31 : decode cX1_init 31 = .ok (.putfield 23, 3) := by decide +kernel
theorem dX1_init_34 : decode cX1_init 34 = .ok (.aload_n 0, 1) := by decide +kernel
theorem dX1_init_35 : decode cX1_init 35 = .ok (.iconst 0, 1) := by decide +kernel
theorem dX1_init_36 : decode cX1_init 36 = .ok (.putfield 26, 3) := by decide +kernel
theorem dX1_init_39 : decode cX1_init 39 = .ok (.aload_n 0, 1) := by decide +kernel
theorem dX1_init_40 : decode cX1_init 40 = .ok (.bipush 6, 2) := by decide +kernel
theorem dX1_init_42 : decode cX1_init 42 = .ok (.newarray .long, 2) := by decide +kernel
theorem dX1_init_44 : decode cX1_init 44 = .ok (.putfield 29, 3) := by decide +kernel
theorem dX1_init_47 : decode cX1_init 47 = .ok (.aload_n 0, 1) := by decide +kernel
theorem dX1_init_48 : decode cX1_init 48 = .ok (.bipush 6, 2) := by decide +kernel
theorem dX1_init_50 : decode cX1_init 50 = .ok (.newarray .long, 2) := by decide +kernel
theorem dX1_init_52 : decode cX1_init 52 = .ok (.putfield 32, 3) := by decide +kernel
theorem dX1_init_55 : decode cX1_init 55 = .ok (.aload_n 0, 1) := by decide +kernel
theorem dX1_init_56 : decode cX1_init 56 = .ok (.bipush 6, 2) := by decide +kernel
theorem dX1_init_58 : decode cX1_init 58 = .ok (.newarray .long, 2) := by decide +kernel
theorem dX1_init_60 : decode cX1_init 60 = .ok (.putfield 35, 3) := by decide +kernel
theorem dX1_init_63 : decode cX1_init 63 = .ok (.aload_n 0, 1) := by decide +kernel
theorem dX1_init_64 : decode cX1_init 64 = .ok (.aload_n 1, 1) := by decide +kernel
theorem dX1_init_65 : decode cX1_init 65 = .ok (.putfield 38, 3) := by decide +kernel
theorem dX1_init_68 : decode cX1_init 68 = .ok (.aload_n 0, 1) := by decide +kernel
theorem dX1_init_69 : decode cX1_init 69 = .ok (.aload_n 2, 1) := by decide +kernel
theorem dX1_init_70 : decode cX1_init 70 = .ok (.putfield 42, 3) := by decide +kernel
theorem dX1_init_73 : decode cX1_init 73 = .ok (.return_, 1) := by decide +kernel
theorem dX2_init_0 : decode cX2_init 0 = .ok (.aload_n 0, 1) := by decide +kernel
theorem dX2_init_1 : decode cX2_init 1 = .ok (.invokespecial 5, 3) := by decide +kernel
theorem dX2_init_4 : decode cX2_init 4 = .ok (.aload_n 0, 1) := by decide +kernel
theorem dX2_init_5 : decode cX2_init 5 = .ok (.bipush 64, 2) := by decide +kernel
theorem dX2_init_7 : decode cX2_init 7 = .ok (.newarray .int, 2) := by decide +kernel
theorem dX2_init_9 : decode cX2_init 9 = .ok (.putfield 11, 3) := by decide +kernel
theorem dX2_init_12 : decode cX2_init 12 = .ok (.aload_n 0, 1) := by decide +kernel
theorem dX2_init_13 : decode cX2_init 13 = .ok (.iconst 0, 1) := by decide +kernel
theorem dX2_init_14 : decode cX2_init 14 = .ok (.putfield 15, 3) := by decide +kernel
theorem dX2_init_17 : decode cX2_init 17 = .ok (.aload_n 0, 1) := by decide +kernel
theorem dX2_init_18 : decode cX2_init 18 = .ok (.sipush 12076, 3) := by decide +kernel
theorem dX2_init_21 : decode cX2_init 21 = .ok (.newarray .int, 2) := by decide +kernel
theorem dX2_init_23 : decode cX2_init 23 = .ok (.putfield 19, 3) := by decide +kernel
theorem dX2_init_26 : decode cX2_init 26 = .ok (.aload_n 0, 1) := by decide +kernel
theorem dX2_init_27 : decode cX2_init 27 = .ok (.iconst 0, 1) := by decide +kernel
theorem dX2_init_28 : decode cX2_init 28 = .ok (.putfield 22, 3) := by decide +kernel
theorem dX2_init_31 : decode cX2_init 31 = .ok (.aload_n 0, 1) := by decide +kernel
theorem dX2_init_32 : decode cX2_init 32 = .ok (.sipush 12076, 3) := by decide +kernel
theorem dX2_init_35 : decode cX2_init 35 = .ok (.newarray .int, 2) := by decide +kernel
theorem dX2_init_37 : decode cX2_init 37 = .ok (.putfield 25, 3) := by decide +kernel
theorem dX2_init_40 : decode cX2_init 40 = .ok (.aload_n 0, 1) := by decide +kernel
theorem dX2_init_41 : decode cX2_init 41 = .ok (.iconst 0, 1) := by decide +kernel
theorem dX2_init_42 : decode cX2_init 42 = .ok (.putfield 28, 3) := by decide +kernel
theorem dX2_init_45 : decode cX2_init 45 = .ok (.aload_n 0, 1) := by decide +kernel
theorem dX2_init_46 : decode cX2_init 46 = .ok (.bipush 6, 2) := by decide +kernel
theorem dX2_init_48 : decode cX2_init 48 = .ok (.newarray .int, 2) := by decide +kernel
theorem dX2_init_50 : decode cX2_init 50 = .ok (.putfield 31, 3) := by decide +kernel
theorem dX2_init_53 : decode cX2_init 53 = .ok (.return_, 1) := by decide +kernel
theorem dX2_begin_0 : decode cX2_begin 0 = .ok (.aload_n 0, 1) := by decide +kernel
theorem dX2_begin_1 : decode cX2_begin 1 = .ok (.iconst 0, 1) := by decide +kernel
theorem dX2_begin_2 : decode cX2_begin 2 = .ok (.putfield 15, 3) := by decide +kernel
theorem dX2_begin_5 : decode cX2_begin 5 = .ok (.return_, 1) := by decide +kernel
theorem dX2_add_0 : decode cX2_add 0 = .ok (.aload_n 0, 1) := by decide +kernel
theorem dX2_add_1 : decode cX2_add 1 = .ok (.getfield 15, 3) := by decide +kernel
theorem dX2_add_4 : decode cX2_add 4 = .ok (.bipush 64, 2) := by decide +kernel
theorem dX2_add_6 : decode cX2_add 6 = .ok (.if_icmp .ge 33, 3) := by decide +kernel
theorem dX2_add_9 : decode cX2_add 9 = .ok (.iload_n 1, 1) := by decide +kernel
theorem dX2_add_10 : decode cX2_add 10 = .ok (.ifCond .lt 29, 3) := by decide +kernel
theorem dX2_add_13 : decode cX2_add 13 = .ok (.iload_n 1, 1) := by decide +kernel
theorem dX2_add_14 : decode cX2_add 14 = .ok (.bipush 6, 2) := by decide +kernel
theorem dX2_add_16 : decode cX2_add 16 = .ok (.if_icmp .ge 23, 3) := by decide +kernel
theorem dX2_add_19 : decode cX2_add 19 = .ok (.aload_n 0, 1) := by decide +kernel
theorem dX2_add_20 : decode cX2_add 20 = .ok (.getfield 11, 3) := by decide +kernel
theorem dX2_add_23 : decode cX2_add 23 = .ok (.aload_n 0, 1) := by decide +kernel
theorem dX2_add_24 : decode cX2_add 24 = .ok (.getfield 15, 3) := by decide +kernel
theorem dX2_add_27 : decode cX2_add 27 = .ok (.iload_n 1, 1) := by decide +kernel
theorem dX2_add_28 : decode cX2_add 28 = .ok (.iastore, 1) := by decide +kernel
theorem dX2_add_29 : decode cX2_add 29 = .ok (.aload_n 0, 1) := by decide +kernel
theorem dX2_add_30 : decode cX2_add 30 = .ok (.dup, 1) := by decide +kernel
theorem dX2_add_31 : decode cX2_add 31 = .ok (.getfield 15, 3) := by decide +kernel
theorem dX2_add_34 : decode cX2_add 34 = .ok (.iconst 1, 1) := by decide +kernel
theorem dX2_add_35 : decode cX2_add 35 = .ok (.iadd, 1) := by decide +kernel
theorem dX2_add_36 : decode cX2_add 36 = .ok (.putfield 15, 3) := by decide +kernel
theorem dX2_add_39 : decode cX2_add 39 = .ok (.return_, 1) := by decide +kernel
theorem dX2_addTails_0 : decode cX2_addTails 0 = .ok (.iload_n 2, 1) := by decide +kernel
theorem dX2_addTails_1 : decode cX2_addTails 1 = .ok (.iconst 1, 1) := by decide +kernel
theorem dX2_addTails_2 : decode cX2_addTails 2 = .ok (.iadd, 1) := by decide +kernel
theorem dX2_addTails_3 : decode cX2_addTails 3 = .ok (.istore 4, 2) := by decide +kernel
theorem dX2_addTails_5 : decode cX2_addTails 5 = .ok (.iload 4, 2) := by decide +kernel
theorem dX2_addTails_7 : decode cX2_addTails 7 = .ok (.aload_n 1, 1) := by decide +kernel
theorem dX2_addTails_8 : decode cX2_addTails 8 = .ok (.getfield 34, 3) := by decide +kernel
theorem dX2_addTails_11 : decode cX2_addTails 11 = .ok (.if_icmp .ge 36, 3) := by decide +kernel
theorem dX2_addTails_14 : decode cX2_addTails 14 = .ok (.aload_n 1, 1) := by decide +kernel
theorem dX2_addTails_15 : decode cX2_addTails 15 = .ok (.iload_n 2, 1) := by decide +kernel
theorem dX2_addTails_16 : decode cX2_addTails 16 = .ok (.iload_n 3, 1) := by decide +kernel
theorem dX2_addTails_17 : decode cX2_addTails 17 = .ok (.iload 4, 2) := by decide +kernel
theorem dX2_addTails_19 : decode cX2_addTails 19 = .ok (.invokevirtual 39, 3) := by decide +kernel
theorem dX2_addTails_22 : decode cX2_addTails 22 = .ok (.istore 5, 2) := by decide +kernel
theorem dX2_addTails_24 : decode cX2_addTails 24 = .ok (.iload 5, 2) := by decide +kernel
theorem dX2_addTails_26 : decode cX2_addTails 26 = .ok (.ifCond .le 15, 3) := by decide +kernel
theorem dX2_addTails_29 : decode cX2_addTails 29 = .ok (.aload_n 0, 1) := by decide +kernel
theorem dX2_addTails_30 : decode cX2_addTails 30 = .ok (.iload 4, 2) := by decide +kernel
theorem dX2_addTails_32 : decode cX2_addTails 32 = .ok (.invokevirtual 43, 3) := by decide +kernel
theorem dX2_addTails_35 : decode cX2_addTails 35 = .ok (.iinc 5 (-1), 3) := by decide +kernel
theorem dX2_addTails_38 : decode cX2_addTails 38 = .ok (.goto (-14), 3) := by decide +kernel
theorem dX2_addTails_41 : decode cX2_addTails 41 = .ok (.iinc 4 1, 3) := by decide +kernel
theorem dX2_addTails_44 : decode cX2_addTails 44 = .ok (.goto (-39), 3) := by decide +kernel
theorem dX2_addTails_47 : decode cX2_addTails 47 = .ok (.return_, 1) := by decide +kernel
theorem dX2_run_0 : decode cX2_run 0 = .ok (.aload_n 0, 1) := by decide +kernel
theorem dX2_run_1 : decode cX2_run 1 = .ok (.iconst 0, 1) := by decide +kernel
theorem dX2_run_2 : decode cX2_run 2 = .ok (.putfield 22, 3) := by decide +kernel
theorem dX2_run_5 : decode cX2_run 5 = .ok (.aload_n 0, 1) := by decide +kernel
theorem dX2_run_6 : decode cX2_run 6 = .ok (.iconst 0, 1) := by decide +kernel
theorem dX2_run_7 : decode cX2_run 7 = .ok (.putfield 28, 3) := by decide +kernel
theorem dX2_run_10 : decode cX2_run 10 = .ok (.aload_n 0, 1) := by decide +kernel
theorem dX2_run_11 : decode cX2_run 11 = .ok (.getfield 15, 3) := by decide +kernel
theorem dX2_run_14 : decode cX2_run 14 = .ok (.iconst 1, 1) := by decide +kernel
theorem dX2_run_15 : decode cX2_run 15 = .ok (.isub, 1) := by decide +kernel
theorem dX2_run_16 : decode cX2_run 16 = .ok (.istore_n 3, 1) := by decide +kernel
theorem dX2_run_17 : decode cX2_run 17 = .ok (.iload_n 3, 1) := by decide +kernel
theorem dX2_run_18 : decode cX2_run 18 = .ok (.ifCond .lt 19, 3) := by decide +kernel
theorem dX2_run_21 : decode cX2_run 21 = .ok (.aload_n 0, 1) := by decide +kernel
theorem dX2_run_22 : decode cX2_run 22 = .ok (.aload_n 0, 1) := by decide +kernel
theorem dX2_run_23 : decode cX2_run 23 = .ok (.getfield 11, 3) := by decide +kernel
theorem dX2_run_26 : decode cX2_run 26 = .ok (.iload_n 3, 1) := by decide +kernel
theorem dX2_run_27 : decode cX2_run 27 = .ok (.iaload, 1) := by decide +kernel
theorem dX2_run_28 : decode cX2_run 28 = .ok (.invokevirtual 47, 3) := by decide +kernel
theorem dX2_run_31 : decode cX2_run 31 = .ok (.iinc 3 (-1), 3) := by decide +kernel
theorem dX2_run_34 : decode cX2_run 34 = .ok (.goto (-17), 3) := by decide +kernel
theorem dX2_run_37 : decode cX2_run 37 = .ok (.iconst 0, 1) := by decide +kernel
theorem dX2_run_38 : decode cX2_run 38 = .ok (.istore_n 3, 1) := by decide +kernel
theorem dX2_run_39 : decode cX2_run 39 = .ok (.iconst 0, 1) := by decide +kernel
theorem dX2_run_40 : decode cX2_run 40 = .ok (.istore 4, 2) := by decide +kernel
theorem dX2_run_42 : decode cX2_run 42 = .ok (.iload 4, 2) := by decide +kernel
theorem dX2_run_44 : decode cX2_run 44 = .ok (.ldc 50, 2) := by decide +kernel
theorem dX2_run_46 : decode cX2_run 46 = .ok (.if_icmp .ge 89, 3) := by decide +kernel
theorem dX2_run_49 : decode cX2_run 49 = .ok (.aload_n 0, 1) := by decide +kernel
theorem dX2_run_50 : decode cX2_run 50 = .ok (.getfield 28, 3) := by decide +kernel
theorem dX2_run_53 : decode cX2_run 53 = .ok (.ifCond .le 82, 3) := by decide +kernel
theorem dX2_run_56 : decode cX2_run 56 = .ok (.aload_n 0, 1) := by decide +kernel
theorem dX2_run_57 : decode cX2_run 57 = .ok (.getfield 25, 3) := by decide +kernel
theorem dX2_run_60 : decode cX2_run 60 = .ok (.aload_n 0, 1) := by decide +kernel
theorem dX2_run_61 : decode cX2_run 61 = .ok (.getfield 28, 3) := by decide +kernel
theorem dX2_run_64 : decode cX2_run 64 = .ok (.iconst 1, 1) := by decide +kernel
theorem dX2_run_65 : decode cX2_run 65 = .ok (.isub, 1) := by decide +kernel
theorem dX2_run_66 : decode cX2_run 66 = .ok (.iaload, 1) := by decide +kernel
theorem dX2_run_67 : decode cX2_run 67 = .ok (.istore 5, 2) := by decide +kernel
theorem dX2_run_69 : decode cX2_run 69 = .ok (.aload_n 0, 1) := by decide +kernel
theorem dX2_run_70 : decode cX2_run 70 = .ok (.getfield 22, 3) := by decide +kernel
theorem dX2_run_73 : decode cX2_run 73 = .ok (.ifCond .eq 19, 3) := by decide +kernel
theorem dX2_run_76 : decode cX2_run 76 = .ok (.aload_n 0, 1) := by decide +kernel
theorem dX2_run_77 : decode cX2_run 77 = .ok (.getfield 19, 3) := by decide +kernel
theorem dX2_run_80 : decode cX2_run 80 = .ok (.aload_n 0, 1) := by decide +kernel
theorem dX2_run_81 : decode cX2_run 81 = .ok (.getfield 22, 3) := by decide +kernel
theorem dX2_run_84 : decode cX2_run 84 = .ok (.iconst 1, 1) := by decide +kernel
theorem dX2_run_85 : decode cX2_run 85 = .ok (.isub, 1) := by decide +kernel
theorem dX2_run_86 : decode cX2_run 86 = .ok (.iaload, 1) := by decide +kernel
theorem dX2_run_87 : decode cX2_run 87 = .ok (.iload 5, 2) := by decide +kernel
theorem dX2_run_89 : decode cX2_run 89 = .ok (.if_icmp .gt 12, 3) := by decide +kernel
theorem dX2_run_92 : decode cX2_run 92 = .ok (.aload_n 0, 1) := by decide +kernel
theorem dX2_run_93 : decode cX2_run 93 = .ok (.iload 5, 2) := by decide +kernel
theorem dX2_run_95 : decode cX2_run 95 = .ok (.invokevirtual 51, 3) := by decide +kernel
theorem dX2_run_98 : decode cX2_run 98 = .ok (.goto 31, 3) := by decide +kernel
theorem dX2_run_101 : decode cX2_run 101 = .ok (.iload_n 3, 1) := by decide +kernel
theorem dX2_run_102 : decode cX2_run 102 = .ok (.iload_n 2, 1) := by decide +kernel
theorem dX2_run_103 : decode cX2_run 103 = .ok (.if_icmp .ne 5, 3) := by decide +kernel
theorem dX2_run_106 : decode cX2_run 106 = .ok (.iconst (-1), 1) := by decide +kernel
theorem dX2_run_107 : decode cX2_run 107 = .ok (.ireturn, 1) := by decide +kernel
theorem dX2_run_108 : decode cX2_run 108 = .ok (.iinc 3 1, 3) := by decide +kernel
theorem dX2_run_111 : decode cX2_run 111 = .ok (.aload_n 0, 1) := by decide +kernel
theorem dX2_run_112 : decode cX2_run 112 = .ok (.aload_n 1, 1) := by decide +kernel
theorem dX2_run_113 : decode cX2_run 113 = .ok (.aload_n 0, 1) := by decide +kernel
theorem dX2_run_114 : decode cX2_run 114 = .ok (.getfield 19, 3) := by decide +kernel
theorem dX2_run_117 : decode cX2_run 117 = .ok (.aload_n 0, 1) := by decide +kernel
theorem dX2_run_118 : decode cX2_run 118 = .ok (.getfield 22, 3) := by decide +kernel
theorem dX2_run_121 : decode cX2_run 121 = .ok (.iconst 1, 1) := by decide +kernel
theorem dX2_run_122 : decode cX2_run 122 = .ok (.isub, 1) := by decide +kernel
theorem dX2_run_123 : decode cX2_run 123 = .ok (.iaload, 1) := by decide +kernel
theorem dX2_run_124 : decode cX2_run 124 = .ok (.iload 5, 2) := by decide +kernel
theorem dX2_run_126 : decode cX2_run 126 = .ok (.invokevirtual 54, 3) := by decide +kernel
theorem dX2_run_129 : decode cX2_run 129 = .ok (.iinc 4 1, 3) := by decide +kernel
theorem dX2_run_132 : decode cX2_run 132 = .ok (.goto (-90), 3) := by decide +kernel
theorem dX2_run_135 : decode cX2_run 135 = .ok (.aload_n 0, 1) := by decide +kernel
theorem dX2_run_136 : decode cX2_run 136 = .ok (.invokevirtual 58, 3) := by decide +kernel
theorem dX2_run_139 : decode cX2_run 139 = .ok (.iload_n 3, 1) := by decide +kernel
theorem dX2_run_140 : decode cX2_run 140 = .ok (.ireturn, 1) := by decide +kernel
theorem dX2_putAhead_0 : decode cX2_putAhead 0 = .ok (.aload_n 0, 1) := by decide +kernel
theorem dX2_putAhead_1 : decode cX2_putAhead 1 = .ok (.getfield 28, 3) := by decide +kernel
theorem dX2_putAhead_4 : decode cX2_putAhead 4 = .ok (.sipush 12076, 3) := by decide +kernel
theorem dX2_putAhead_7 : decode cX2_putAhead 7 = .ok (.if_icmp .ge 23, 3) := by decide +kernel
theorem dX2_putAhead_10 : decode cX2_putAhead 10 = .ok (.aload_n 0, 1) := by decide +kernel
theorem dX2_putAhead_11 : decode cX2_putAhead 11 = .ok (.getfield 25, 3) := by decide +kernel
theorem dX2_putAhead_14 : decode cX2_putAhead 14 = .ok (.aload_n 0, 1) := by decide +kernel
theorem dX2_putAhead_15 : decode cX2_putAhead 15 = .ok (.getfield 28, 3) := by decide +kernel
theorem dX2_putAhead_18 : decode cX2_putAhead 18 = .ok (.iload_n 1, 1) := by decide +kernel
theorem dX2_putAhead_19 : decode cX2_putAhead 19 = .ok (.iastore, 1) := by decide +kernel
theorem dX2_putAhead_20 : decode cX2_putAhead 20 = .ok (.aload_n 0, 1) := by decide +kernel
theorem dX2_putAhead_21 : decode cX2_putAhead 21 = .ok (.dup, 1) := by decide +kernel
theorem dX2_putAhead_22 : decode cX2_putAhead 22 = .ok (.getfield 28, 3) := by decide +kernel
theorem dX2_putAhead_25 : decode cX2_putAhead 25 = .ok (.iconst 1, 1) := by decide +kernel
theorem dX2_putAhead_26 : decode cX2_putAhead 26 = .ok (.iadd, 1) := by decide +kernel
theorem dX2_putAhead_27 : decode cX2_putAhead 27 = .ok (.putfield 28, 3) := by decide +kernel
theorem dX2_putAhead_30 : decode cX2_putAhead 30 = .ok (.return_, 1) := by decide +kernel
theorem dX2_moveOn_0 : decode cX2_moveOn 0 = .ok (.aload_n 0, 1) := by decide +kernel
theorem dX2_moveOn_1 : decode cX2_moveOn 1 = .ok (.dup, 1) := by decide +kernel
theorem dX2_moveOn_2 : decode cX2_moveOn 2 = .ok (.getfield 28, 3) := by decide +kernel
theorem dX2_moveOn_5 : decode cX2_moveOn 5 = .ok (.iconst 1, 1) := by decide +kernel
theorem dX2_moveOn_6 : decode cX2_moveOn 6 = .ok (.isub, 1) := by decide +kernel
theorem dX2_moveOn_7 : decode cX2_moveOn 7 = .ok (.putfield 28, 3) := by decide +kernel
theorem dX2_moveOn_10 : decode cX2_moveOn 10 = .ok (.aload_n 0, 1) := by decide +kernel
theorem dX2_moveOn_11 : decode cX2_moveOn 11 = .ok (.getfield 22, 3) := by decide +kernel
theorem dX2_moveOn_14 : decode cX2_moveOn 14 = .ok (.sipush 12076, 3) := by decide +kernel
theorem dX2_moveOn_17 : decode cX2_moveOn 17 = .ok (.if_icmp .ge 23, 3) := by decide +kernel
theorem dX2_moveOn_20 : decode cX2_moveOn 20 = .ok (.aload_n 0, 1) := by decide +kernel
theorem dX2_moveOn_21 : decode cX2_moveOn 21 = .ok (.getfield 19, 3) := by decide +kernel
theorem dX2_moveOn_24 : decode cX2_moveOn 24 = .ok (.aload_n 0, 1) := by decide +kernel
theorem dX2_moveOn_25 : decode cX2_moveOn 25 = .ok (.getfield 22, 3) := by decide +kernel
theorem dX2_moveOn_28 : decode cX2_moveOn 28 = .ok (.iload_n 1, 1) := by decide +kernel
theorem dX2_moveOn_29 : decode cX2_moveOn 29 = .ok (.iastore, 1) := by decide +kernel
theorem dX2_moveOn_30 : decode cX2_moveOn 30 = .ok (.aload_n 0, 1) := by decide +kernel
theorem dX2_moveOn_31 : decode cX2_moveOn 31 = .ok (.dup, 1) := by decide +kernel
theorem dX2_moveOn_32 : decode cX2_moveOn 32 = .ok (.getfield 22, 3) := by decide +kernel
theorem dX2_moveOn_35 : decode cX2_moveOn 35 = .ok (.iconst 1, 1) := by decide +kernel
theorem dX2_moveOn_36 : decode cX2_moveOn 36 = .ok (.iadd, 1) := by decide +kernel
theorem dX2_moveOn_37 : decode cX2_moveOn 37 = .ok (.putfield 22, 3) := by decide +kernel
theorem dX2_moveOn_40 : decode cX2_moveOn 40 = .ok (.return_, 1) := by decide +kernel
theorem dX2_exchange_0 : decode cX2_exchange 0 = .ok (.aload_n 0, 1) := by decide +kernel
theorem dX2_exchange_1 : decode cX2_exchange 1 = .ok (.dup, 1) := by decide +kernel
theorem dX2_exchange_2 : decode cX2_exchange 2 = .ok (.getfield 22, 3) := by decide +kernel
theorem dX2_exchange_5 : decode cX2_exchange 5 = .ok (.iconst 1, 1) := by decide +kernel
theorem dX2_exchange_6 : decode cX2_exchange 6 = .ok (.isub, 1) := by decide +kernel
theorem dX2_exchange_7 : decode cX2_exchange 7 = .ok (.putfield 22, 3) := by decide +kernel
theorem dX2_exchange_10 : decode cX2_exchange 10 = .ok (.aload_n 0, 1) := by decide +kernel
theorem dX2_exchange_11 : decode cX2_exchange 11 = .ok (.dup, 1) := by decide +kernel
theorem dX2_exchange_12 : decode cX2_exchange 12 = .ok (.getfield 28, 3) := by decide +kernel
theorem dX2_exchange_15 : decode cX2_exchange 15 = .ok (.iconst 1, 1) := by decide +kernel
theorem dX2_exchange_16 : decode cX2_exchange 16 = .ok (.isub, 1) := by decide +kernel
theorem dX2_exchange_17 : decode cX2_exchange 17 = .ok (.putfield 28, 3) := by decide +kernel
theorem dX2_exchange_20 : decode cX2_exchange 20 = .ok (.aload_n 1, 1) := by decide +kernel
theorem dX2_exchange_21 : decode cX2_exchange 21 = .ok (.getfield 34, 3) := by decide +kernel
theorem dX2_exchange_24 : decode cX2_exchange 24 = .ok (.iconst 1, 1) := by decide +kernel
theorem dX2_exchange_25 : decode cX2_exchange 25 = .ok (.isub, 1) := by decide +kernel
theorem dX2_exchange_26 : decode cX2_exchange 26 = .ok (.istore 4, 2) := by decide +kernel
theorem dX2_exchange_28 : decode cX2_exchange 28 = .ok (.iload 4, 2) := by decide +kernel
theorem dX2_exchange_30 : decode cX2_exchange 30 = .ok (.iload_n 2, 1) := by decide +kernel
theorem dX2_exchange_31 : decode cX2_exchange 31 = .ok (.if_icmp .le 36, 3) := by decide +kernel
theorem dX2_exchange_34 : decode cX2_exchange 34 = .ok (.aload_n 1, 1) := by decide +kernel
theorem dX2_exchange_35 : decode cX2_exchange 35 = .ok (.iload_n 2, 1) := by decide +kernel
theorem dX2_exchange_36 : decode cX2_exchange 36 = .ok (.iload_n 3, 1) := by decide +kernel
theorem dX2_exchange_37 : decode cX2_exchange 37 = .ok (.iload 4, 2) := by decide +kernel
theorem dX2_exchange_39 : decode cX2_exchange 39 = .ok (.invokevirtual 39, 3) := by decide +kernel
theorem dX2_exchange_42 : decode cX2_exchange 42 = .ok (.istore 5, 2) := by decide +kernel
theorem dX2_exchange_44 : decode cX2_exchange 44 = .ok (.iload 5, 2) := by decide +kernel
theorem dX2_exchange_46 : decode cX2_exchange 46 = .ok (.ifCond .le 15, 3) := by decide +kernel
theorem dX2_exchange_49 : decode cX2_exchange 49 = .ok (.aload_n 0, 1) := by decide +kernel
theorem dX2_exchange_50 : decode cX2_exchange 50 = .ok (.iload 4, 2) := by decide +kernel
theorem dX2_exchange_52 : decode cX2_exchange 52 = .ok (.invokevirtual 47, 3) := by decide +kernel
theorem dX2_exchange_55 : decode cX2_exchange 55 = .ok (.iinc 5 (-1), 3) := by decide +kernel
theorem dX2_exchange_58 : decode cX2_exchange 58 = .ok (.goto (-14), 3) := by decide +kernel
theorem dX2_exchange_61 : decode cX2_exchange 61 = .ok (.iinc 4 (-1), 3) := by decide +kernel
theorem dX2_exchange_64 : decode cX2_exchange 64 = .ok (.goto (-36), 3) := by decide +kernel
theorem dX2_exchange_67 : decode cX2_exchange 67 = .ok (.aload_n 0, 1) := by decide +kernel
theorem dX2_exchange_68 : decode cX2_exchange 68 = .ok (.iload_n 2, 1) := by decide +kernel
theorem dX2_exchange_69 : decode cX2_exchange 69 = .ok (.invokevirtual 47, 3) := by decide +kernel
theorem dX2_exchange_72 : decode cX2_exchange 72 = .ok (.aload_n 0, 1) := by decide +kernel
theorem dX2_exchange_73 : decode cX2_exchange 73 = .ok (.iload_n 3, 1) := by decide +kernel
theorem dX2_exchange_74 : decode cX2_exchange 74 = .ok (.invokevirtual 47, 3) := by decide +kernel
theorem dX2_exchange_77 : decode cX2_exchange 77 = .ok (.return_, 1) := by decide +kernel
theorem dX2_countLetters_0 : decode cX2_countLetters 0 = .ok (.aload_n 0, 1) := by decide +kernel
theorem dX2_countLetters_1 : decode cX2_countLetters 1 = .ok (.getfield 31, 3) := by decide +kernel
theorem dX2_countLetters_4 : decode cX2_countLetters 4 = .ok (.iconst 0, 1) := by decide +kernel
theorem dX2_countLetters_5 : decode cX2_countLetters 5 = .ok (.invokestatic 61, 3) := by decide +kernel
theorem dX2_countLetters_8 : decode cX2_countLetters 8 = .ok (.iconst 0, 1) := by decide +kernel
theorem dX2_countLetters_9 : decode cX2_countLetters 9 = .ok (.istore_n 1, 1) := by decide +kernel
theorem dX2_countLetters_10 : decode cX2_countLetters 10 = .ok (.iload_n 1, 1) := by decide +kernel
theorem dX2_countLetters_11 : decode cX2_countLetters 11 = .ok (.aload_n 0, 1) := by decide +kernel
theorem dX2_countLetters_12 : decode cX2_countLetters 12 = .ok (.getfield 22, 3) := by decide +kernel
theorem dX2_countLetters_15 : decode cX2_countLetters 15 = .ok (.if_icmp .ge 24, 3) := by decide +kernel
theorem dX2_countLetters_18 : decode cX2_countLetters 18 = .ok (.aload_n 0, 1) := by decide +kernel
theorem dX2_countLetters_19 : decode cX2_countLetters 19 = .ok (.getfield 31, 3) := by decide +kernel
theorem dX2_countLetters_22 : decode cX2_countLetters 22 = .ok (.aload_n 0, 1) := by decide +kernel
theorem dX2_countLetters_23 : decode cX2_countLetters 23 = .ok (.getfield 19, 3) := by decide +kernel
theorem dX2_countLetters_26 : decode cX2_countLetters 26 = .ok (.iload_n 1, 1) := by decide +kernel
theorem dX2_countLetters_27 : decode cX2_countLetters 27 = .ok (.iaload, 1) := by decide +kernel
theorem dX2_countLetters_28 : decode cX2_countLetters 28 = .ok (.dup2, 1) := by decide +kernel
theorem dX2_countLetters_29 : decode cX2_countLetters 29 = .ok (.iaload, 1) := by decide +kernel
theorem dX2_countLetters_30 : decode cX2_countLetters 30 = .ok (.iconst 1, 1) := by decide +kernel
theorem dX2_countLetters_31 : decode cX2_countLetters 31 = .ok (.iadd, 1) := by decide +kernel
theorem dX2_countLetters_32 : decode cX2_countLetters 32 = .ok (.iastore, 1) := by decide +kernel
theorem dX2_countLetters_33 : decode cX2_countLetters 33 = .ok (.iinc 1 1, 3) := by decide +kernel
theorem dX2_countLetters_36 : decode cX2_countLetters 36 = .ok (.goto (-26), 3) := by decide +kernel
theorem dX2_countLetters_39 : decode cX2_countLetters 39 = .ok (.return_, 1) := by decide +kernel
theorem dX3_init_0 : decode cX3_init 0 = .ok (.aload_n 0, 1) := by decide +kernel
theorem dX3_init_1 : decode cX3_init 1 = .ok (.invokespecial 3, 3) := by decide +kernel
theorem dX3_init_4 : decode cX3_init 4 = .ok (.aload_n 0, 1) := by decide +kernel
theorem dX3_init_5 : decode cX3_init 5 = .ok (.iconst 0, 1) := by decide +kernel
theorem dX3_init_6 : decode cX3_init 6 = .ok (.putfield 9, 3) := by decide +kernel
theorem dX3_init_9 : decode cX3_init 9 = .ok (.aload_n 0, 1) := by decide +kernel
theorem dX3_init_10 : decode cX3_init 10 = .ok (.bipush 6, 2) := by decide +kernel
theorem dX3_init_12 : decode cX3_init 12 = .ok (.bipush 6, 2) := by decide +kernel
theorem dX3_init_14 : decode cX3_init 14 = .ok (.multianewarray 15 2, 4) := by decide +kernel
theorem dX3_init_18 : decode cX3_init 18 = .ok (.putfield 17, 3) := by decide +kernel
theorem dX3_init_21 : decode cX3_init 21 = .ok (.aload_n 0, 1) := by decide +kernel
theorem dX3_init_22 : decode cX3_init 22 = .ok (.bipush 6, 2) := by decide +kernel
theorem dX3_init_24 : decode cX3_init 24 = .ok (.newarray .long, 2) := by decide +kernel
theorem dX3_init_26 : decode cX3_init 26 = .ok (.putfield 20, 3) := by decide +kernel
theorem dX3_init_29 : decode cX3_init 29 = .ok (.return_, 1) := by decide +kernel
theorem dX4_init_0 : decode cX4_init 0 = .ok (.aload_n 0, 1) := by decide +kernel
theorem dX4_init_1 : decode cX4_init 1 = .ok (.invokespecial 3, 3) := by decide +kernel
theorem dX4_init_4 : decode cX4_init 4 = .ok (.aload_n 0, 1) := by decide +kernel
theorem dX4_init_5 : decode cX4_init 5 = .ok (.new 9, 3) := by decide +kernel
theorem dX4_init_8 : decode cX4_init 8 = .ok (.dup, 1) := by decide +kernel
theorem dX4_init_9 : decode cX4_init 9 = .ok (.invokespecial 11, 3) := by decide +kernel
theorem dX4_init_12 : decode cX4_init 12 = .ok (.putfield 12, 3) := by decide +kernel
theorem dX4_init_15 : decode cX4_init 15 = .ok (.aload_n 0, 1) := by decide +kernel
theorem dX4_init_16 : decode cX4_init 16 = .ok (.bipush 6, 2) := by decide +kernel
theorem dX4_init_18 : decode cX4_init 18 = .ok (.anewarray 18, 3) := by decide +kernel
theorem dX4_init_21 : decode cX4_init 21 = .ok (.putfield 20, 3) := by decide +kernel
theorem dX4_init_24 : decode cX4_init 24 = .ok (.aload_n 0, 1) := by decide +kernel
theorem dX4_init_25 : decode cX4_init 25 = .ok (.iconst 0, 1) := by decide +kernel
theorem dX4_init_26 : decode cX4_init 26 = .ok (.putfield 24, 3) := by decide +kernel
theorem dX4_init_29 : decode cX4_init 29 = .ok (.aload_n 0, 1) := by decide +kernel
theorem dX4_init_30 : decode cX4_init 30 = .ok (.iconst 0, 1) := by decide +kernel
theorem dX4_init_31 : decode cX4_init 31 = .ok (.putfield 28, 3) := by decide +kernel
theorem dX4_init_34 : decode cX4_init 34 = .ok (.aload_n 0, 1) := by decide +kernel
theorem dX4_init_35 : decode cX4_init 35 = .ok (.bipush 12, 2) := by decide +kernel
theorem dX4_init_37 : decode cX4_init 37 = .ok (.newarray .int, 2) := by decide +kernel
theorem dX4_init_39 : decode cX4_init 39 = .ok (.putfield 32, 3) := by decide +kernel
theorem dX4_init_42 : decode cX4_init 42 = .ok (.aload_n 0, 1) := by decide +kernel
theorem dX4_init_43 : decode cX4_init 43 = .ok (.iconst 0, 1) := by decide +kernel
theorem dX4_init_44 : decode cX4_init 44 = .ok (.putfield 36, 3) := by decide +kernel
theorem dX4_init_47 : decode cX4_init 47 = .ok (.aload_n 0, 1) := by decide +kernel
theorem dX4_init_48 : decode cX4_init 48 = .ok (.bipush 64, 2) := by decide +kernel
theorem dX4_init_50 : decode cX4_init 50 = .ok (.newarray .long, 2) := by decide +kernel
theorem dX4_init_52 : decode cX4_init 52 = .ok (.putfield 39, 3) := by decide +kernel
theorem dX4_init_55 : decode cX4_init 55 = .ok (.aload_n 0, 1) := by decide +kernel
theorem dX4_init_56 : decode cX4_init 56 = .ok (.bipush 6, 2) := by decide +kernel
theorem dX4_init_58 : decode cX4_init 58 = .ok (.newarray .int, 2) := by decide +kernel
theorem dX4_init_60 : decode cX4_init 60 = .ok (.putfield 43, 3) := by decide +kernel
theorem dX4_init_63 : decode cX4_init 63 = .ok (.aload_n 0, 1) := by decide +kernel
theorem dX4_init_64 : decode cX4_init 64 = .ok (.aload_n 1, 1) := by decide +kernel
theorem dX4_init_65 : decode cX4_init 65 = .ok (.putfield 46, 3) := by decide +kernel
theorem dX4_init_68 : decode cX4_init 68 = .ok (.iconst 0, 1) := by decide +kernel
theorem dX4_init_69 : decode cX4_init 69 = .ok (.istore_n 2, 1) := by decide +kernel
theorem dX4_init_70 : decode cX4_init 70 = .ok (.iload_n 2, 1) := by decide +kernel
theorem dX4_init_71 : decode cX4_init 71 = .ok (.bipush 6, 2) := by decide +kernel
theorem dX4_init_73 : decode cX4_init 73 = .ok (.if_icmp .ge 22, 3) := by decide +kernel
theorem dX4_init_76 : decode cX4_init 76 = .ok (.aload_n 0, 1) := by decide +kernel
theorem dX4_init_77 : decode cX4_init 77 = .ok (.getfield 20, 3) := by decide +kernel
theorem dX4_init_80 : decode cX4_init 80 = .ok (.iload_n 2, 1) := by decide +kernel
theorem dX4_init_81 : decode cX4_init 81 = .ok (.new 18, 3) := by decide +kernel
theorem dX4_init_84 : decode cX4_init 84 = .ok (.dup, 1) := by decide +kernel
theorem dX4_init_85 : decode cX4_init 85 = .ok (.invokespecial 50, 3) := by decide +kernel
theorem dX4_init_88 : decode cX4_init 88 = .ok (.aastore, 1) := by decide +kernel
theorem dX4_init_89 : decode cX4_init 89 = .ok (.iinc 2 1, 3) := by decide +kernel
theorem dX4_init_92 : decode cX4_init 92 = .ok (.goto (-22), 3) := by decide +kernel
theorem dX4_init_95 : decode cX4_init 95 = .ok (.return_, 1) := by decide +kernel
theorem dX4_follow_0 : decode cX4_follow 0 = .ok (.aload_n 0, 1) := by decide +kernel
theorem dX4_follow_1 : decode cX4_follow 1 = .ok (.getfield 12, 3) := by decide +kernel
theorem dX4_follow_4 : decode cX4_follow 4 = .ok (.aload_n 1, 1) := by decide +kernel
theorem dX4_follow_5 : decode cX4_follow 5 = .ok (.invokevirtual 51, 3) := by decide +kernel
theorem dX4_follow_8 : decode cX4_follow 8 = .ok (.ifCond .eq 4, 3) := by decide +kernel
theorem dX4_follow_11 : decode cX4_follow 11 = .ok (.return_, 1) := by decide +kernel
theorem dX4_follow_12 : decode cX4_follow 12 = .ok (.aload_n 0, 1) := by decide +kernel
theorem dX4_follow_13 : decode cX4_follow 13 = .ok (.getfield 12, 3) := by decide +kernel
theorem dX4_follow_16 : decode cX4_follow 16 = .ok (.aload_n 1, 1) := by decide +kernel
theorem dX4_follow_17 : decode cX4_follow 17 = .ok (.invokevirtual 55, 3) := by decide +kernel
theorem dX4_follow_20 : decode cX4_follow 20 = .ok (.aload_n 0, 1) := by decide +kernel
theorem dX4_follow_21 : decode cX4_follow 21 = .ok (.dup, 1) := by decide +kernel
theorem dX4_follow_22 : decode cX4_follow 22 = .ok (.getfield 28, 3) := by decide +kernel
theorem dX4_follow_25 : decode cX4_follow 25 = .ok (.iconst 1, 1) := by decide +kernel
theorem dX4_follow_26 : decode cX4_follow 26 = .ok (.iadd, 1) := by decide +kernel
theorem dX4_follow_27 : decode cX4_follow 27 = .ok (.putfield 28, 3) := by decide +kernel
theorem dX4_follow_30 : decode cX4_follow 30 = .ok (.aload_n 0, 1) := by decide +kernel
theorem dX4_follow_31 : decode cX4_follow 31 = .ok (.aload_n 0, 1) := by decide +kernel
theorem dX4_follow_32 : decode cX4_follow 32 = .ok (.invokevirtual 59, 3) := by decide +kernel
theorem dX4_follow_35 : decode cX4_follow 35 = .ok (.putfield 24, 3) := by decide +kernel
theorem dX4_follow_38 : decode cX4_follow 38 = .ok (.iconst 0, 1) := by decide +kernel
theorem dX4_follow_39 : decode cX4_follow 39 = .ok (.istore_n 2, 1) := by decide +kernel
theorem dX4_follow_40 : decode cX4_follow 40 = .ok (.iload_n 2, 1) := by decide +kernel
theorem dX4_follow_41 : decode cX4_follow 41 = .ok (.bipush 6, 2) := by decide +kernel
theorem dX4_follow_43 : decode cX4_follow 43 = .ok (.if_icmp .ge 19, 3) := by decide +kernel
theorem dX4_follow_46 : decode cX4_follow 46 = .ok (.aload_n 0, 1) := by decide +kernel
theorem dX4_follow_47 : decode cX4_follow 47 = .ok (.getfield 20, 3) := by decide +kernel
theorem dX4_follow_50 : decode cX4_follow 50 = .ok (.iload_n 2, 1) := by decide +kernel
theorem dX4_follow_51 : decode cX4_follow 51 = .ok (.aaload, 1) := by decide +kernel
theorem dX4_follow_52 : decode cX4_follow 52 = .ok (.iconst 0, 1) := by decide +kernel
theorem dX4_follow_53 : decode cX4_follow 53 = .ok (.putfield 63, 3) := by decide +kernel
theorem dX4_follow_56 : decode cX4_follow 56 = .ok (.iinc 2 1, 3) := by decide +kernel
theorem dX4_follow_59 : decode cX4_follow 59 = .ok (.goto (-19), 3) := by decide +kernel
theorem dX4_follow_62 : decode cX4_follow 62 = .ok (.aload_n 0, 1) := by decide +kernel
theorem dX4_follow_63 : decode cX4_follow 63 = .ok (.getfield 24, 3) := by decide +kernel
theorem dX4_follow_66 : decode cX4_follow 66 = .ok (.ifCond .eq 7, 3) := by decide +kernel
theorem dX4_follow_69 : decode cX4_follow 69 = .ok (.aload_n 0, 1) := by decide +kernel
theorem dX4_follow_70 : decode cX4_follow 70 = .ok (.invokevirtual 66, 3) := by decide +kernel
theorem dX4_follow_73 : decode cX4_follow 73 = .ok (.return_, 1) := by decide +kernel
theorem dX4_termCount_0 : decode cX4_termCount 0 = .ok (.iconst 0, 1) := by decide +kernel
theorem dX4_termCount_1 : decode cX4_termCount 1 = .ok (.istore_n 1, 1) := by decide +kernel
theorem dX4_termCount_2 : decode cX4_termCount 2 = .ok (.iconst 0, 1) := by decide +kernel
theorem dX4_termCount_3 : decode cX4_termCount 3 = .ok (.istore_n 2, 1) := by decide +kernel
theorem dX4_termCount_4 : decode cX4_termCount 4 = .ok (.iload_n 2, 1) := by decide +kernel
theorem dX4_termCount_5 : decode cX4_termCount 5 = .ok (.bipush 6, 2) := by decide +kernel
theorem dX4_termCount_7 : decode cX4_termCount 7 = .ok (.if_icmp .ge 21, 3) := by decide +kernel
theorem dX4_termCount_10 : decode cX4_termCount 10 = .ok (.iload_n 1, 1) := by decide +kernel
theorem dX4_termCount_11 : decode cX4_termCount 11 = .ok (.aload_n 0, 1) := by decide +kernel
theorem dX4_termCount_12 : decode cX4_termCount 12 = .ok (.getfield 20, 3) := by decide +kernel
theorem dX4_termCount_15 : decode cX4_termCount 15 = .ok (.iload_n 2, 1) := by decide +kernel
theorem dX4_termCount_16 : decode cX4_termCount 16 = .ok (.aaload, 1) := by decide +kernel
theorem dX4_termCount_17 : decode cX4_termCount 17 = .ok (.getfield 63, 3) := by decide +kernel
theorem dX4_termCount_20 : decode cX4_termCount 20 = .ok (.iadd, 1) := by decide +kernel
theorem dX4_termCount_21 : decode cX4_termCount 21 = .ok (.istore_n 1, 1) := by decide +kernel
theorem dX4_termCount_22 : decode cX4_termCount 22 = .ok (.iinc 2 1, 3) := by decide +kernel
theorem dX4_termCount_25 : decode cX4_termCount 25 = .ok (.goto (-21), 3) := by decide +kernel
theorem dX4_termCount_28 : decode cX4_termCount 28 = .ok (.iload_n 1, 1) := by decide +kernel
theorem dX4_termCount_29 : decode cX4_termCount 29 = .ok (.ireturn, 1) := by decide +kernel
theorem dX4_put_0 : decode cX4_put 0 = .ok (.iconst 4, 1) := by decide +kernel
theorem dX4_put_1 : decode cX4_put 1 = .ok (.iload_n 1, 1) := by decide +kernel
theorem dX4_put_2 : decode cX4_put 2 = .ok (.imul, 1) := by decide +kernel
theorem dX4_put_3 : decode cX4_put 3 = .ok (.istore 4, 2) := by decide +kernel
theorem dX4_put_5 : decode cX4_put 5 = .ok (.iload 4, 2) := by decide +kernel
theorem dX4_put_7 : decode cX4_put 7 = .ok (.ifCond .lt 12, 3) := by decide +kernel
theorem dX4_put_10 : decode cX4_put 10 = .ok (.iload 4, 2) := by decide +kernel
theorem dX4_put_12 : decode cX4_put 12 = .ok (.iconst 2, 1) := by decide +kernel
theorem dX4_put_13 : decode cX4_put 13 = .ok (.iadd, 1) := by decide +kernel
theorem dX4_put_14 : decode cX4_put 14 = .ok (.aload_n 0, 1) := by decide +kernel
theorem dX4_put_15 : decode cX4_put 15 = .ok (.arraylength, 1) := by decide +kernel
theorem dX4_put_16 : decode cX4_put 16 = .ok (.if_icmp .lt 4, 3) := by decide +kernel
theorem dX4_put_19 : decode cX4_put 19 = .ok (.return_, 1) := by decide +kernel
theorem dX4_put_20 : decode cX4_put 20 = .ok (.aload_n 0, 1) := by decide +kernel
theorem dX4_put_21 : decode cX4_put 21 = .ok (.iload 4, 2) := by decide +kernel
theorem dX4_put_23 : decode cX4_put 23 = .ok (.lconst 1, 1) := by decide +kernel
theorem dX4_put_24 : decode cX4_put 24 = .ok (.lastore, 1) := by decide +kernel
theorem dX4_put_25 : decode cX4_put 25 = .ok (.aload_n 0, 1) := by decide +kernel
theorem dX4_put_26 : decode cX4_put 26 = .ok (.iload 4, 2) := by decide +kernel
theorem dX4_put_28 : decode cX4_put 28 = .ok (.iconst 1, 1) := by decide +kernel
theorem dX4_put_29 : decode cX4_put 29 = .ok (.iadd, 1) := by decide +kernel
theorem dX4_put_30 : decode cX4_put 30 = .ok (.lload_n 2, 1) := by decide +kernel
theorem dX4_put_31 : decode cX4_put 31 = .ok (.lastore, 1) := by decide +kernel
theorem dX4_put_32 : decode cX4_put 32 = .ok (.aload_n 0, 1) := by decide +kernel
theorem dX4_put_33 : decode cX4_put 33 = .ok (.iload 4, 2) := by decide +kernel
theorem dX4_put_35 : decode cX4_put 35 = .ok (.iconst 2, 1) := by decide +kernel
theorem dX4_put_36 : decode cX4_put 36 = .ok (.iadd, 1) := by decide +kernel
theorem dX4_put_37 : decode cX4_put 37 = .ok (.lload_n 2, 1) := by decide +kernel
theorem dX4_put_38 : decode cX4_put 38 = .ok (.lload_n 2, 1) := by decide +kernel
theorem dX4_put_39 : decode cX4_put 39 = .ok (.lconst 1, 1) := by decide +kernel
theorem dX4_put_40 : decode cX4_put 40 = .ok (.lsub, 1) := by decide +kernel
theorem dX4_put_41 : decode cX4_put 41 = .ok (.lmul, 1) := by decide +kernel
theorem dX4_put_42 : decode cX4_put 42 = .ok (.ldc2_w 69, 3) := by decide +kernel
theorem dX4_put_45 : decode cX4_put 45 = .ok (.ldiv, 1) := by decide +kernel
theorem dX4_put_46 : decode cX4_put 46 = .ok (.lastore, 1) := by decide +kernel
theorem dX4_put_47 : decode cX4_put 47 = .ok (.return_, 1) := by decide +kernel
theorem dX4_areOverlapsAlike_0 : decode cX4_areOverlapsAlike 0 = .ok (.iconst 2, 1) := by decide +kernel
theorem dX4_areOverlapsAlike_1 : decode cX4_areOverlapsAlike 1 = .ok (.istore_n 1, 1) := by decide +kernel
theorem dX4_areOverlapsAlike_2 : decode cX4_areOverlapsAlike 2 = .ok (.iload_n 1, 1) := by decide +kernel
theorem dX4_areOverlapsAlike_3 : decode cX4_areOverlapsAlike 3 = .ok (.aload_n 0, 1) := by decide +kernel
theorem dX4_areOverlapsAlike_4 : decode cX4_areOverlapsAlike 4 = .ok (.getfield 12, 3) := by decide +kernel
theorem dX4_areOverlapsAlike_7 : decode cX4_areOverlapsAlike 7 = .ok (.getfield 71, 3) := by decide +kernel
theorem dX4_areOverlapsAlike_10 : decode cX4_areOverlapsAlike 10 = .ok (.if_icmp .ge 47, 3) := by decide +kernel
theorem dX4_areOverlapsAlike_13 : decode cX4_areOverlapsAlike 13 = .ok (.iconst 1, 1) := by decide +kernel
theorem dX4_areOverlapsAlike_14 : decode cX4_areOverlapsAlike 14 = .ok (.istore_n 2, 1) := by decide +kernel
theorem dX4_areOverlapsAlike_15 : decode cX4_areOverlapsAlike 15 = .ok (.iload_n 2, 1) := by decide +kernel
theorem dX4_areOverlapsAlike_16 : decode cX4_areOverlapsAlike 16 = .ok (.iload_n 1, 1) := by decide +kernel
theorem dX4_areOverlapsAlike_17 : decode cX4_areOverlapsAlike 17 = .ok (.if_icmp .ge 34, 3) := by decide +kernel
theorem dX4_areOverlapsAlike_20 : decode cX4_areOverlapsAlike 20 = .ok (.iconst 0, 1) := by decide +kernel
theorem dX4_areOverlapsAlike_21 : decode cX4_areOverlapsAlike 21 = .ok (.istore_n 3, 1) := by decide +kernel
theorem dX4_areOverlapsAlike_22 : decode cX4_areOverlapsAlike 22 = .ok (.iload_n 3, 1) := by decide +kernel
theorem dX4_areOverlapsAlike_23 : decode cX4_areOverlapsAlike 23 = .ok (.iload_n 2, 1) := by decide +kernel
theorem dX4_areOverlapsAlike_24 : decode cX4_areOverlapsAlike 24 = .ok (.if_icmp .ge 21, 3) := by decide +kernel
theorem dX4_areOverlapsAlike_27 : decode cX4_areOverlapsAlike 27 = .ok (.aload_n 0, 1) := by decide +kernel
theorem dX4_areOverlapsAlike_28 : decode cX4_areOverlapsAlike 28 = .ok (.iload_n 1, 1) := by decide +kernel
theorem dX4_areOverlapsAlike_29 : decode cX4_areOverlapsAlike 29 = .ok (.iload_n 2, 1) := by decide +kernel
theorem dX4_areOverlapsAlike_30 : decode cX4_areOverlapsAlike 30 = .ok (.iload_n 3, 1) := by decide +kernel
theorem dX4_areOverlapsAlike_31 : decode cX4_areOverlapsAlike 31 = .ok (.invokevirtual 72, 3) := by decide +kernel
theorem dX4_areOverlapsAlike_34 : decode cX4_areOverlapsAlike 34 = .ok (.ifCond .ne 5, 3) := by decide +kernel
theorem dX4_areOverlapsAlike_37 : decode cX4_areOverlapsAlike 37 = .ok (.iconst 0, 1) := by decide +kernel
theorem dX4_areOverlapsAlike_38 : decode cX4_areOverlapsAlike 38 = .ok (.ireturn, 1) := by decide +kernel
theorem dX4_areOverlapsAlike_39 : decode cX4_areOverlapsAlike 39 = .ok (.iinc 3 1, 3) := by decide +kernel
theorem dX4_areOverlapsAlike_42 : decode cX4_areOverlapsAlike 42 = .ok (.goto (-20), 3) := by decide +kernel
theorem dX4_areOverlapsAlike_45 : decode cX4_areOverlapsAlike 45 = .ok (.iinc 2 1, 3) := by decide +kernel
theorem dX4_areOverlapsAlike_48 : decode cX4_areOverlapsAlike 48 = .ok (.goto (-33), 3) := by decide +kernel
theorem dX4_areOverlapsAlike_51 : decode cX4_areOverlapsAlike 51 = .ok (.iinc 1 1, 3) := by decide +kernel
theorem dX4_areOverlapsAlike_54 : decode cX4_areOverlapsAlike 54 = .ok (.goto (-52), 3) := by decide +kernel
theorem dX4_areOverlapsAlike_57 : decode cX4_areOverlapsAlike 57 = .ok (.iconst 1, 1) := by decide +kernel
theorem dX4_areOverlapsAlike_58 : decode cX4_areOverlapsAlike 58 = .ok (.ireturn, 1) := by decide +kernel
theorem dX4_isOverlapAlike_0 : decode cX4_isOverlapAlike 0 = .ok (.aload_n 0, 1) := by decide +kernel
theorem dX4_isOverlapAlike_1 : decode cX4_isOverlapAlike 1 = .ok (.getfield 46, 3) := by decide +kernel
theorem dX4_isOverlapAlike_4 : decode cX4_isOverlapAlike 4 = .ok (.invokevirtual 76, 3) := by decide +kernel
theorem dX4_isOverlapAlike_7 : decode cX4_isOverlapAlike 7 = .ok (.aload_n 0, 1) := by decide +kernel
theorem dX4_isOverlapAlike_8 : decode cX4_isOverlapAlike 8 = .ok (.getfield 46, 3) := by decide +kernel
theorem dX4_isOverlapAlike_11 : decode cX4_isOverlapAlike 11 = .ok (.iload_n 2, 1) := by decide +kernel
theorem dX4_isOverlapAlike_12 : decode cX4_isOverlapAlike 12 = .ok (.invokevirtual 81, 3) := by decide +kernel
theorem dX4_isOverlapAlike_15 : decode cX4_isOverlapAlike 15 = .ok (.aload_n 0, 1) := by decide +kernel
theorem dX4_isOverlapAlike_16 : decode cX4_isOverlapAlike 16 = .ok (.getfield 46, 3) := by decide +kernel
theorem dX4_isOverlapAlike_19 : decode cX4_isOverlapAlike 19 = .ok (.iload_n 1, 1) := by decide +kernel
theorem dX4_isOverlapAlike_20 : decode cX4_isOverlapAlike 20 = .ok (.invokevirtual 81, 3) := by decide +kernel
theorem dX4_isOverlapAlike_23 : decode cX4_isOverlapAlike 23 = .ok (.aload_n 0, 1) := by decide +kernel
theorem dX4_isOverlapAlike_24 : decode cX4_isOverlapAlike 24 = .ok (.getfield 46, 3) := by decide +kernel
theorem dX4_isOverlapAlike_27 : decode cX4_isOverlapAlike 27 = .ok (.aload_n 0, 1) := by decide +kernel
theorem dX4_isOverlapAlike_28 : decode cX4_isOverlapAlike 28 = .ok (.getfield 12, 3) := by decide +kernel
theorem dX4_isOverlapAlike_31 : decode cX4_isOverlapAlike 31 = .ok (.iload_n 1, 1) := by decide +kernel
theorem dX4_isOverlapAlike_32 : decode cX4_isOverlapAlike 32 = .ok (.iload_n 2, 1) := by decide +kernel
theorem dX4_isOverlapAlike_33 : decode cX4_isOverlapAlike 33 = .ok (.invokevirtual 85, 3) := by decide +kernel
theorem dX4_isOverlapAlike_36 : decode cX4_isOverlapAlike 36 = .ok (.aload_n 0, 1) := by decide +kernel
theorem dX4_isOverlapAlike_37 : decode cX4_isOverlapAlike 37 = .ok (.getfield 46, 3) := by decide +kernel
theorem dX4_isOverlapAlike_40 : decode cX4_isOverlapAlike 40 = .ok (.iload_n 3, 1) := by decide +kernel
theorem dX4_isOverlapAlike_41 : decode cX4_isOverlapAlike 41 = .ok (.invokevirtual 81, 3) := by decide +kernel
theorem dX4_isOverlapAlike_44 : decode cX4_isOverlapAlike 44 = .ok (.aload_n 0, 1) := by decide +kernel
theorem dX4_isOverlapAlike_45 : decode cX4_isOverlapAlike 45 = .ok (.getfield 46, 3) := by decide +kernel
theorem dX4_isOverlapAlike_48 : decode cX4_isOverlapAlike 48 = .ok (.aload_n 0, 1) := by decide +kernel
theorem dX4_isOverlapAlike_49 : decode cX4_isOverlapAlike 49 = .ok (.getfield 12, 3) := by decide +kernel
theorem dX4_isOverlapAlike_52 : decode cX4_isOverlapAlike 52 = .ok (.sipush 1000, 3) := by decide +kernel
theorem dX4_isOverlapAlike_55 : decode cX4_isOverlapAlike 55 = .ok (.invokevirtual 89, 3) := by decide +kernel
theorem dX4_isOverlapAlike_58 : decode cX4_isOverlapAlike 58 = .ok (.pop, 1) := by decide +kernel
theorem dX4_isOverlapAlike_59 : decode cX4_isOverlapAlike 59 = .ok (.aload_n 0, 1) := by decide +kernel
theorem dX4_isOverlapAlike_60 : decode cX4_isOverlapAlike 60 = .ok (.getfield 46, 3) := by decide +kernel
theorem dX4_isOverlapAlike_63 : decode cX4_isOverlapAlike 63 = .ok (.getfield 93, 3) := by decide +kernel
theorem dX4_isOverlapAlike_66 : decode cX4_isOverlapAlike 66 = .ok (.iconst 0, 1) := by decide +kernel
theorem dX4_isOverlapAlike_67 : decode cX4_isOverlapAlike 67 = .ok (.aload_n 0, 1) := by decide +kernel
theorem dX4_isOverlapAlike_68 : decode cX4_isOverlapAlike 68 = .ok (.getfield 43, 3) := by decide +kernel
theorem dX4_isOverlapAlike_71 : decode cX4_isOverlapAlike 71 = .ok (.iconst 0, 1) := by decide +kernel
theorem dX4_isOverlapAlike_72 : decode cX4_isOverlapAlike 72 = .ok (.bipush 6, 2) := by decide +kernel
theorem dX4_isOverlapAlike_74 : decode cX4_isOverlapAlike 74 = .ok (.invokestatic 94, 3) := by decide +kernel
theorem dX4_isOverlapAlike_77 : decode cX4_isOverlapAlike 77 = .ok (.aload_n 0, 1) := by decide +kernel
theorem dX4_isOverlapAlike_78 : decode cX4_isOverlapAlike 78 = .ok (.getfield 46, 3) := by decide +kernel
theorem dX4_isOverlapAlike_81 : decode cX4_isOverlapAlike 81 = .ok (.invokevirtual 76, 3) := by decide +kernel
theorem dX4_isOverlapAlike_84 : decode cX4_isOverlapAlike 84 = .ok (.aload_n 0, 1) := by decide +kernel
theorem dX4_isOverlapAlike_85 : decode cX4_isOverlapAlike 85 = .ok (.getfield 46, 3) := by decide +kernel
theorem dX4_isOverlapAlike_88 : decode cX4_isOverlapAlike 88 = .ok (.iload_n 1, 1) := by decide +kernel
theorem dX4_isOverlapAlike_89 : decode cX4_isOverlapAlike 89 = .ok (.invokevirtual 81, 3) := by decide +kernel
theorem dX4_isOverlapAlike_92 : decode cX4_isOverlapAlike 92 = .ok (.aload_n 0, 1) := by decide +kernel
theorem dX4_isOverlapAlike_93 : decode cX4_isOverlapAlike 93 = .ok (.getfield 46, 3) := by decide +kernel
theorem dX4_isOverlapAlike_96 : decode cX4_isOverlapAlike 96 = .ok (.iload_n 3, 1) := by decide +kernel
theorem dX4_isOverlapAlike_97 : decode cX4_isOverlapAlike 97 = .ok (.invokevirtual 81, 3) := by decide +kernel
theorem dX4_isOverlapAlike_100 : decode cX4_isOverlapAlike 100 = .ok (.aload_n 0, 1) := by decide +kernel
theorem dX4_isOverlapAlike_101 : decode cX4_isOverlapAlike 101 = .ok (.getfield 46, 3) := by decide +kernel
theorem dX4_isOverlapAlike_104 : decode cX4_isOverlapAlike 104 = .ok (.iload_n 2, 1) := by decide +kernel
theorem dX4_isOverlapAlike_105 : decode cX4_isOverlapAlike 105 = .ok (.invokevirtual 81, 3) := by decide +kernel
theorem dX4_isOverlapAlike_108 : decode cX4_isOverlapAlike 108 = .ok (.aload_n 0, 1) := by decide +kernel
theorem dX4_isOverlapAlike_109 : decode cX4_isOverlapAlike 109 = .ok (.getfield 46, 3) := by decide +kernel
theorem dX4_isOverlapAlike_112 : decode cX4_isOverlapAlike 112 = .ok (.aload_n 0, 1) := by decide +kernel
theorem dX4_isOverlapAlike_113 : decode cX4_isOverlapAlike 113 = .ok (.getfield 12, 3) := by decide +kernel
theorem dX4_isOverlapAlike_116 : decode cX4_isOverlapAlike 116 = .ok (.iload_n 2, 1) := by decide +kernel
theorem dX4_isOverlapAlike_117 : decode cX4_isOverlapAlike 117 = .ok (.iload_n 3, 1) := by decide +kernel
theorem dX4_isOverlapAlike_118 : decode cX4_isOverlapAlike 118 = .ok (.invokevirtual 85, 3) := by decide +kernel
theorem dX4_isOverlapAlike_121 : decode cX4_isOverlapAlike 121 = .ok (.aload_n 0, 1) := by decide +kernel
theorem dX4_isOverlapAlike_122 : decode cX4_isOverlapAlike 122 = .ok (.getfield 46, 3) := by decide +kernel
theorem dX4_isOverlapAlike_125 : decode cX4_isOverlapAlike 125 = .ok (.aload_n 0, 1) := by decide +kernel
theorem dX4_isOverlapAlike_126 : decode cX4_isOverlapAlike 126 = .ok (.getfield 12, 3) := by decide +kernel
theorem dX4_isOverlapAlike_129 : decode cX4_isOverlapAlike 129 = .ok (.sipush 1000, 3) := by decide +kernel
theorem dX4_isOverlapAlike_132 : decode cX4_isOverlapAlike 132 = .ok (.invokevirtual 89, 3) := by decide +kernel
theorem dX4_isOverlapAlike_135 : decode cX4_isOverlapAlike 135 = .ok (.pop, 1) := by decide +kernel
theorem dX4_isOverlapAlike_136 : decode cX4_isOverlapAlike 136 = .ok (.iconst 0, 1) := by decide +kernel
theorem dX4_isOverlapAlike_137 : decode cX4_isOverlapAlike 137 = .ok (.istore 4, 2) := by decide +kernel
theorem dX4_isOverlapAlike_139 : decode cX4_isOverlapAlike 139 = .ok (.iload 4, 2) := by decide +kernel
theorem dX4_isOverlapAlike_141 : decode cX4_isOverlapAlike 141 = .ok (.bipush 6, 2) := by decide +kernel
theorem dX4_isOverlapAlike_143 : decode cX4_isOverlapAlike 143 = .ok (.if_icmp .ge 31, 3) := by decide +kernel
theorem dX4_isOverlapAlike_146 : decode cX4_isOverlapAlike 146 = .ok (.aload_n 0, 1) := by decide +kernel
theorem dX4_isOverlapAlike_147 : decode cX4_isOverlapAlike 147 = .ok (.getfield 43, 3) := by decide +kernel
theorem dX4_isOverlapAlike_150 : decode cX4_isOverlapAlike 150 = .ok (.iload 4, 2) := by decide +kernel
theorem dX4_isOverlapAlike_152 : decode cX4_isOverlapAlike 152 = .ok (.iaload, 1) := by decide +kernel
theorem dX4_isOverlapAlike_153 : decode cX4_isOverlapAlike 153 = .ok (.aload_n 0, 1) := by decide +kernel
theorem dX4_isOverlapAlike_154 : decode cX4_isOverlapAlike 154 = .ok (.getfield 46, 3) := by decide +kernel
theorem dX4_isOverlapAlike_157 : decode cX4_isOverlapAlike 157 = .ok (.getfield 93, 3) := by decide +kernel
theorem dX4_isOverlapAlike_160 : decode cX4_isOverlapAlike 160 = .ok (.iload 4, 2) := by decide +kernel
theorem dX4_isOverlapAlike_162 : decode cX4_isOverlapAlike 162 = .ok (.iaload, 1) := by decide +kernel
theorem dX4_isOverlapAlike_163 : decode cX4_isOverlapAlike 163 = .ok (.if_icmp .eq 5, 3) := by decide +kernel
theorem dX4_isOverlapAlike_166 : decode cX4_isOverlapAlike 166 = .ok (.iconst 0, 1) := by decide +kernel
theorem dX4_isOverlapAlike_167 : decode cX4_isOverlapAlike 167 = .ok (.ireturn, 1) := by decide +kernel
theorem dX4_isOverlapAlike_168 : decode cX4_isOverlapAlike 168 = .ok (.iinc 4 1, 3) := by decide +kernel
theorem dX4_isOverlapAlike_171 : decode cX4_isOverlapAlike 171 = .ok (.goto (-32), 3) := by decide +kernel
theorem dX4_isOverlapAlike_174 : decode cX4_isOverlapAlike 174 = .ok (.iconst 1, 1) := by decide +kernel
theorem dX4_isOverlapAlike_175 : decode cX4_isOverlapAlike 175 = .ok (.ireturn, 1) := by decide +kernel
theorem dX4_findTerms_0 : decode cX4_findTerms 0 = .ok (.aload_n 0, 1) := by decide +kernel
theorem dX4_findTerms_1 : decode cX4_findTerms 1 = .ok (.getfield 32, 3) := by decide +kernel
theorem dX4_findTerms_4 : decode cX4_findTerms 4 = .ok (.iconst 0, 1) := by decide +kernel
theorem dX4_findTerms_5 : decode cX4_findTerms 5 = .ok (.invokestatic 100, 3) := by decide +kernel
theorem dX4_findTerms_8 : decode cX4_findTerms 8 = .ok (.aload_n 0, 1) := by decide +kernel
theorem dX4_findTerms_9 : decode cX4_findTerms 9 = .ok (.iconst 0, 1) := by decide +kernel
theorem dX4_findTerms_10 : decode cX4_findTerms 10 = .ok (.putfield 36, 3) := by decide +kernel
theorem dX4_findTerms_13 : decode cX4_findTerms 13 = .ok (.iconst 0, 1) := by decide +kernel
theorem dX4_findTerms_14 : decode cX4_findTerms 14 = .ok (.istore_n 1, 1) := by decide +kernel
theorem dX4_findTerms_15 : decode cX4_findTerms 15 = .ok (.iload_n 1, 1) := by decide +kernel
theorem dX4_findTerms_16 : decode cX4_findTerms 16 = .ok (.sipush 455, 3) := by decide +kernel
theorem dX4_findTerms_19 : decode cX4_findTerms 19 = .ok (.if_icmp .ge 20, 3) := by decide +kernel
theorem dX4_findTerms_22 : decode cX4_findTerms 22 = .ok (.aload_n 0, 1) := by decide +kernel
theorem dX4_findTerms_23 : decode cX4_findTerms 23 = .ok (.invokevirtual 106, 3) := by decide +kernel
theorem dX4_findTerms_26 : decode cX4_findTerms 26 = .ok (.ifCond .eq 13, 3) := by decide +kernel
theorem dX4_findTerms_29 : decode cX4_findTerms 29 = .ok (.aload_n 0, 1) := by decide +kernel
theorem dX4_findTerms_30 : decode cX4_findTerms 30 = .ok (.invokevirtual 109, 3) := by decide +kernel
theorem dX4_findTerms_33 : decode cX4_findTerms 33 = .ok (.iinc 1 1, 3) := by decide +kernel
theorem dX4_findTerms_36 : decode cX4_findTerms 36 = .ok (.goto (-21), 3) := by decide +kernel
theorem dX4_findTerms_39 : decode cX4_findTerms 39 = .ok (.return_, 1) := by decide +kernel
theorem dX4_goToNextPoint_0 : decode cX4_goToNextPoint 0 = .ok (.iconst 2, 1) := by decide +kernel
theorem dX4_goToNextPoint_1 : decode cX4_goToNextPoint 1 = .ok (.aload_n 0, 1) := by decide +kernel
theorem dX4_goToNextPoint_2 : decode cX4_goToNextPoint 2 = .ok (.getfield 12, 3) := by decide +kernel
theorem dX4_goToNextPoint_5 : decode cX4_goToNextPoint 5 = .ok (.getfield 71, 3) := by decide +kernel
theorem dX4_goToNextPoint_8 : decode cX4_goToNextPoint 8 = .ok (.imul, 1) := by decide +kernel
theorem dX4_goToNextPoint_9 : decode cX4_goToNextPoint 9 = .ok (.iconst 1, 1) := by decide +kernel
theorem dX4_goToNextPoint_10 : decode cX4_goToNextPoint 10 = .ok (.isub, 1) := by decide +kernel
theorem dX4_goToNextPoint_11 : decode cX4_goToNextPoint 11 = .ok (.istore_n 1, 1) := by decide +kernel
theorem dX4_goToNextPoint_12 : decode cX4_goToNextPoint 12 = .ok (.iload_n 1, 1) := by decide +kernel
theorem dX4_goToNextPoint_13 : decode cX4_goToNextPoint 13 = .ok (.ifCond .lt 140, 3) := by decide +kernel
theorem dX4_goToNextPoint_16 : decode cX4_goToNextPoint 16 = .ok (.iload_n 1, 1) := by decide +kernel
theorem dX4_goToNextPoint_17 : decode cX4_goToNextPoint 17 = .ok (.aload_n 0, 1) := by decide +kernel
theorem dX4_goToNextPoint_18 : decode cX4_goToNextPoint 18 = .ok (.getfield 12, 3) := by decide +kernel
theorem dX4_goToNextPoint_21 : decode cX4_goToNextPoint 21 = .ok (.getfield 71, 3) := by decide +kernel
theorem dX4_goToNextPoint_24 : decode cX4_goToNextPoint 24 = .ok (.if_icmp .ge 7, 3) := by decide +kernel
theorem dX4_goToNextPoint_27 : decode cX4_goToNextPoint 27 = .ok (.iload_n 1, 1) := by decide +kernel
theorem dX4_goToNextPoint_28 : decode cX4_goToNextPoint 28 = .ok (.goto 12, 3) := by decide +kernel
theorem dX4_goToNextPoint_31 : decode cX4_goToNextPoint 31 = .ok (.iload_n 1, 1) := by decide +kernel
theorem dX4_goToNextPoint_32 : decode cX4_goToNextPoint 32 = .ok (.aload_n 0, 1) := by decide +kernel
theorem dX4_goToNextPoint_33 : decode cX4_goToNextPoint 33 = .ok (.getfield 12, 3) := by decide +kernel
theorem dX4_goToNextPoint_36 : decode cX4_goToNextPoint 36 = .ok (.getfield 71, 3) := by decide +kernel
theorem dX4_goToNextPoint_39 : decode cX4_goToNextPoint 39 = .ok (.isub, 1) := by decide +kernel
theorem dX4_goToNextPoint_40 : decode cX4_goToNextPoint 40 = .ok (.istore_n 2, 1) := by decide +kernel
theorem dX4_goToNextPoint_41 : decode cX4_goToNextPoint 41 = .ok (.iload_n 1, 1) := by decide +kernel
theorem dX4_goToNextPoint_42 : decode cX4_goToNextPoint 42 = .ok (.aload_n 0, 1) := by decide +kernel
theorem dX4_goToNextPoint_43 : decode cX4_goToNextPoint 43 = .ok (.getfield 12, 3) := by decide +kernel
theorem dX4_goToNextPoint_46 : decode cX4_goToNextPoint 46 = .ok (.getfield 71, 3) := by decide +kernel
theorem dX4_goToNextPoint_49 : decode cX4_goToNextPoint 49 = .ok (.if_icmp .ge 7, 3) := by decide +kernel
theorem dX4_goToNextPoint_52 : decode cX4_goToNextPoint 52 = .ok (.iload_n 2, 1) := by decide +kernel
theorem dX4_goToNextPoint_53 : decode cX4_goToNextPoint 53 = .ok (.goto 7, 3) := by decide +kernel
theorem dX4_goToNextPoint_56 : decode cX4_goToNextPoint 56 = .ok (.bipush 6, 2) := by decide +kernel
theorem dX4_goToNextPoint_58 : decode cX4_goToNextPoint 58 = .ok (.iload_n 2, 1) := by decide +kernel
theorem dX4_goToNextPoint_59 : decode cX4_goToNextPoint 59 = .ok (.iadd, 1) := by decide +kernel
theorem dX4_goToNextPoint_60 : decode cX4_goToNextPoint 60 = .ok (.istore_n 3, 1) := by decide +kernel
theorem dX4_goToNextPoint_61 : decode cX4_goToNextPoint 61 = .ok (.aload_n 0, 1) := by decide +kernel
theorem dX4_goToNextPoint_62 : decode cX4_goToNextPoint 62 = .ok (.getfield 36, 3) := by decide +kernel
theorem dX4_goToNextPoint_65 : decode cX4_goToNextPoint 65 = .ok (.aload_n 0, 1) := by decide +kernel
theorem dX4_goToNextPoint_66 : decode cX4_goToNextPoint 66 = .ok (.getfield 12, 3) := by decide +kernel
theorem dX4_goToNextPoint_69 : decode cX4_goToNextPoint 69 = .ok (.getfield 112, 3) := by decide +kernel
theorem dX4_goToNextPoint_72 : decode cX4_goToNextPoint 72 = .ok (.iload_n 2, 1) := by decide +kernel
theorem dX4_goToNextPoint_73 : decode cX4_goToNextPoint 73 = .ok (.iaload, 1) := by decide +kernel
theorem dX4_goToNextPoint_74 : decode cX4_goToNextPoint 74 = .ok (.iadd, 1) := by decide +kernel
theorem dX4_goToNextPoint_75 : decode cX4_goToNextPoint 75 = .ok (.aload_n 0, 1) := by decide +kernel
theorem dX4_goToNextPoint_76 : decode cX4_goToNextPoint 76 = .ok (.getfield 12, 3) := by decide +kernel
theorem dX4_goToNextPoint_79 : decode cX4_goToNextPoint 79 = .ok (.invokevirtual 115, 3) := by decide +kernel
theorem dX4_goToNextPoint_82 : decode cX4_goToNextPoint 82 = .ok (.if_icmp .gt 33, 3) := by decide +kernel
theorem dX4_goToNextPoint_85 : decode cX4_goToNextPoint 85 = .ok (.aload_n 0, 1) := by decide +kernel
theorem dX4_goToNextPoint_86 : decode cX4_goToNextPoint 86 = .ok (.getfield 32, 3) := by decide +kernel
theorem dX4_goToNextPoint_89 : decode cX4_goToNextPoint 89 = .ok (.iload_n 3, 1) := by decide +kernel
theorem dX4_goToNextPoint_90 : decode cX4_goToNextPoint 90 = .ok (.dup2, 1) := by decide +kernel
theorem dX4_goToNextPoint_91 : decode cX4_goToNextPoint 91 = .ok (.iaload, 1) := by decide +kernel
theorem dX4_goToNextPoint_92 : decode cX4_goToNextPoint 92 = .ok (.iconst 1, 1) := by decide +kernel
theorem dX4_goToNextPoint_93 : decode cX4_goToNextPoint 93 = .ok (.iadd, 1) := by decide +kernel
theorem dX4_goToNextPoint_94 : decode cX4_goToNextPoint 94 = .ok (.iastore, 1) := by decide +kernel
theorem dX4_goToNextPoint_95 : decode cX4_goToNextPoint 95 = .ok (.aload_n 0, 1) := by decide +kernel
theorem dX4_goToNextPoint_96 : decode cX4_goToNextPoint 96 = .ok (.dup, 1) := by decide +kernel
theorem dX4_goToNextPoint_97 : decode cX4_goToNextPoint 97 = .ok (.getfield 36, 3) := by decide +kernel
theorem dX4_goToNextPoint_100 : decode cX4_goToNextPoint 100 = .ok (.aload_n 0, 1) := by decide +kernel
theorem dX4_goToNextPoint_101 : decode cX4_goToNextPoint 101 = .ok (.getfield 12, 3) := by decide +kernel
theorem dX4_goToNextPoint_104 : decode cX4_goToNextPoint 104 = .ok (.getfield 112, 3) := by decide +kernel
theorem dX4_goToNextPoint_107 : decode cX4_goToNextPoint 107 = .ok (.iload_n 2, 1) := by decide +kernel
theorem dX4_goToNextPoint_108 : decode cX4_goToNextPoint 108 = .ok (.iaload, 1) := by decide +kernel
theorem dX4_goToNextPoint_109 : decode cX4_goToNextPoint 109 = .ok (.iadd, 1) := by decide +kernel
theorem dX4_goToNextPoint_110 : decode cX4_goToNextPoint 110 = .ok (.putfield 36, 3) := by decide +kernel
theorem dX4_goToNextPoint_113 : decode cX4_goToNextPoint 113 = .ok (.iconst 1, 1) := by decide +kernel
theorem dX4_goToNextPoint_114 : decode cX4_goToNextPoint 114 = .ok (.ireturn, 1) := by decide +kernel
theorem dX4_goToNextPoint_115 : decode cX4_goToNextPoint 115 = .ok (.aload_n 0, 1) := by decide +kernel
theorem dX4_goToNextPoint_116 : decode cX4_goToNextPoint 116 = .ok (.dup, 1) := by decide +kernel
theorem dX4_goToNextPoint_117 : decode cX4_goToNextPoint 117 = .ok (.getfield 36, 3) := by decide +kernel
theorem dX4_goToNextPoint_120 : decode cX4_goToNextPoint 120 = .ok (.aload_n 0, 1) := by decide +kernel
theorem dX4_goToNextPoint_121 : decode cX4_goToNextPoint 121 = .ok (.getfield 32, 3) := by decide +kernel
theorem dX4_goToNextPoint_124 : decode cX4_goToNextPoint 124 = .ok (.iload_n 3, 1) := by decide +kernel
theorem dX4_goToNextPoint_125 : decode cX4_goToNextPoint 125 = .ok (.iaload, 1) := by decide +kernel
theorem dX4_goToNextPoint_126 : decode cX4_goToNextPoint 126 = .ok (.aload_n 0, 1) := by decide +kernel
theorem dX4_goToNextPoint_127 : decode cX4_goToNextPoint 127 = .ok (.getfield 12, 3) := by decide +kernel
theorem dX4_goToNextPoint_130 : decode cX4_goToNextPoint 130 = .ok (.getfield 112, 3) := by decide +kernel
theorem dX4_goToNextPoint_133 : decode cX4_goToNextPoint 133 = .ok (.iload_n 2, 1) := by decide +kernel
theorem dX4_goToNextPoint_134 : decode cX4_goToNextPoint 134 = .ok (.iaload, 1) := by decide +kernel
theorem dX4_goToNextPoint_135 : decode cX4_goToNextPoint 135 = .ok (.imul, 1) := by decide +kernel
theorem dX4_goToNextPoint_136 : decode cX4_goToNextPoint 136 = .ok (.isub, 1) := by decide +kernel
theorem dX4_goToNextPoint_137 : decode cX4_goToNextPoint 137 = .ok (.putfield 36, 3) := by decide +kernel
theorem dX4_goToNextPoint_140 : decode cX4_goToNextPoint 140 = .ok (.aload_n 0, 1) := by decide +kernel
theorem dX4_goToNextPoint_141 : decode cX4_goToNextPoint 141 = .ok (.getfield 32, 3) := by decide +kernel
theorem dX4_goToNextPoint_144 : decode cX4_goToNextPoint 144 = .ok (.iload_n 3, 1) := by decide +kernel
theorem dX4_goToNextPoint_145 : decode cX4_goToNextPoint 145 = .ok (.iconst 0, 1) := by decide +kernel
theorem dX4_goToNextPoint_146 : decode cX4_goToNextPoint 146 = .ok (.iastore, 1) := by decide +kernel
theorem dX4_goToNextPoint_147 : decode cX4_goToNextPoint 147 = .ok (.iinc 1 (-1), 3) := by decide +kernel
theorem dX4_goToNextPoint_150 : decode cX4_goToNextPoint 150 = .ok (.goto (-138), 3) := by decide +kernel
theorem dX4_goToNextPoint_153 : decode cX4_goToNextPoint 153 = .ok (.iconst 0, 1) := by decide +kernel
theorem dX4_goToNextPoint_154 : decode cX4_goToNextPoint 154 = .ok (.ireturn, 1) := by decide +kernel
theorem dX4_findTermsAtPoint_0 : decode cX4_findTermsAtPoint 0 = .ok (.aload_n 0, 1) := by decide +kernel
theorem dX4_findTermsAtPoint_1 : decode cX4_findTermsAtPoint 1 = .ok (.getfield 46, 3) := by decide +kernel
theorem dX4_findTermsAtPoint_4 : decode cX4_findTermsAtPoint 4 = .ok (.invokevirtual 76, 3) := by decide +kernel
theorem dX4_findTermsAtPoint_7 : decode cX4_findTermsAtPoint 7 = .ok (.iconst 0, 1) := by decide +kernel
theorem dX4_findTermsAtPoint_8 : decode cX4_findTermsAtPoint 8 = .ok (.istore_n 1, 1) := by decide +kernel
theorem dX4_findTermsAtPoint_9 : decode cX4_findTermsAtPoint 9 = .ok (.iconst 0, 1) := by decide +kernel
theorem dX4_findTermsAtPoint_10 : decode cX4_findTermsAtPoint 10 = .ok (.istore_n 2, 1) := by decide +kernel
theorem dX4_findTermsAtPoint_11 : decode cX4_findTermsAtPoint 11 = .ok (.iload_n 2, 1) := by decide +kernel
theorem dX4_findTermsAtPoint_12 : decode cX4_findTermsAtPoint 12 = .ok (.bipush 12, 2) := by decide +kernel
theorem dX4_findTermsAtPoint_14 : decode cX4_findTermsAtPoint 14 = .ok (.if_icmp .ge 66, 3) := by decide +kernel
theorem dX4_findTermsAtPoint_17 : decode cX4_findTermsAtPoint 17 = .ok (.aload_n 0, 1) := by decide +kernel
theorem dX4_findTermsAtPoint_18 : decode cX4_findTermsAtPoint 18 = .ok (.getfield 39, 3) := by decide +kernel
theorem dX4_findTermsAtPoint_21 : decode cX4_findTermsAtPoint 21 = .ok (.iload_n 2, 1) := by decide +kernel
theorem dX4_findTermsAtPoint_22 : decode cX4_findTermsAtPoint 22 = .ok (.aload_n 0, 1) := by decide +kernel
theorem dX4_findTermsAtPoint_23 : decode cX4_findTermsAtPoint 23 = .ok (.getfield 32, 3) := by decide +kernel
theorem dX4_findTermsAtPoint_26 : decode cX4_findTermsAtPoint 26 = .ok (.iload_n 2, 1) := by decide +kernel
theorem dX4_findTermsAtPoint_27 : decode cX4_findTermsAtPoint 27 = .ok (.iaload, 1) := by decide +kernel
theorem dX4_findTermsAtPoint_28 : decode cX4_findTermsAtPoint 28 = .ok (.i2l, 1) := by decide +kernel
theorem dX4_findTermsAtPoint_29 : decode cX4_findTermsAtPoint 29 = .ok (.invokestatic 119, 3) := by decide +kernel
theorem dX4_findTermsAtPoint_32 : decode cX4_findTermsAtPoint 32 = .ok (.iload_n 1, 1) := by decide +kernel
theorem dX4_findTermsAtPoint_33 : decode cX4_findTermsAtPoint 33 = .ok (.iconst 2, 1) := by decide +kernel
theorem dX4_findTermsAtPoint_34 : decode cX4_findTermsAtPoint 34 = .ok (.ishl, 1) := by decide +kernel
theorem dX4_findTermsAtPoint_35 : decode cX4_findTermsAtPoint 35 = .ok (.aload_n 0, 1) := by decide +kernel
theorem dX4_findTermsAtPoint_36 : decode cX4_findTermsAtPoint 36 = .ok (.getfield 32, 3) := by decide +kernel
theorem dX4_findTermsAtPoint_39 : decode cX4_findTermsAtPoint 39 = .ok (.iload_n 2, 1) := by decide +kernel
theorem dX4_findTermsAtPoint_40 : decode cX4_findTermsAtPoint 40 = .ok (.iaload, 1) := by decide +kernel
theorem dX4_findTermsAtPoint_41 : decode cX4_findTermsAtPoint 41 = .ok (.iconst 3, 1) := by decide +kernel
theorem dX4_findTermsAtPoint_42 : decode cX4_findTermsAtPoint 42 = .ok (.iand, 1) := by decide +kernel
theorem dX4_findTermsAtPoint_43 : decode cX4_findTermsAtPoint 43 = .ok (.ior, 1) := by decide +kernel
theorem dX4_findTermsAtPoint_44 : decode cX4_findTermsAtPoint 44 = .ok (.istore_n 1, 1) := by decide +kernel
theorem dX4_findTermsAtPoint_45 : decode cX4_findTermsAtPoint 45 = .ok (.iconst 0, 1) := by decide +kernel
theorem dX4_findTermsAtPoint_46 : decode cX4_findTermsAtPoint 46 = .ok (.istore_n 3, 1) := by decide +kernel
theorem dX4_findTermsAtPoint_47 : decode cX4_findTermsAtPoint 47 = .ok (.iload_n 3, 1) := by decide +kernel
theorem dX4_findTermsAtPoint_48 : decode cX4_findTermsAtPoint 48 = .ok (.aload_n 0, 1) := by decide +kernel
theorem dX4_findTermsAtPoint_49 : decode cX4_findTermsAtPoint 49 = .ok (.getfield 32, 3) := by decide +kernel
theorem dX4_findTermsAtPoint_52 : decode cX4_findTermsAtPoint 52 = .ok (.iload_n 2, 1) := by decide +kernel
theorem dX4_findTermsAtPoint_53 : decode cX4_findTermsAtPoint 53 = .ok (.iaload, 1) := by decide +kernel
theorem dX4_findTermsAtPoint_54 : decode cX4_findTermsAtPoint 54 = .ok (.if_icmp .ge 20, 3) := by decide +kernel
theorem dX4_findTermsAtPoint_57 : decode cX4_findTermsAtPoint 57 = .ok (.aload_n 0, 1) := by decide +kernel
theorem dX4_findTermsAtPoint_58 : decode cX4_findTermsAtPoint 58 = .ok (.getfield 46, 3) := by decide +kernel
theorem dX4_findTermsAtPoint_61 : decode cX4_findTermsAtPoint 61 = .ok (.iload_n 2, 1) := by decide +kernel
theorem dX4_findTermsAtPoint_62 : decode cX4_findTermsAtPoint 62 = .ok (.bipush 6, 2) := by decide +kernel
theorem dX4_findTermsAtPoint_64 : decode cX4_findTermsAtPoint 64 = .ok (.irem, 1) := by decide +kernel
theorem dX4_findTermsAtPoint_65 : decode cX4_findTermsAtPoint 65 = .ok (.invokevirtual 81, 3) := by decide +kernel
theorem dX4_findTermsAtPoint_68 : decode cX4_findTermsAtPoint 68 = .ok (.iinc 3 1, 3) := by decide +kernel
theorem dX4_findTermsAtPoint_71 : decode cX4_findTermsAtPoint 71 = .ok (.goto (-24), 3) := by decide +kernel
theorem dX4_findTermsAtPoint_74 : decode cX4_findTermsAtPoint 74 = .ok (.iinc 2 1, 3) := by decide +kernel
theorem dX4_findTermsAtPoint_77 : decode cX4_findTermsAtPoint 77 = .ok (.goto (-66), 3) := by decide +kernel
theorem dX4_findTermsAtPoint_80 : decode cX4_findTermsAtPoint 80 = .ok (.aload_n 0, 1) := by decide +kernel
theorem dX4_findTermsAtPoint_81 : decode cX4_findTermsAtPoint 81 = .ok (.getfield 46, 3) := by decide +kernel
theorem dX4_findTermsAtPoint_84 : decode cX4_findTermsAtPoint 84 = .ok (.aload_n 0, 1) := by decide +kernel
theorem dX4_findTermsAtPoint_85 : decode cX4_findTermsAtPoint 85 = .ok (.getfield 12, 3) := by decide +kernel
theorem dX4_findTermsAtPoint_88 : decode cX4_findTermsAtPoint 88 = .ok (.sipush 1000, 3) := by decide +kernel
theorem dX4_findTermsAtPoint_91 : decode cX4_findTermsAtPoint 91 = .ok (.invokevirtual 89, 3) := by decide +kernel
theorem dX4_findTermsAtPoint_94 : decode cX4_findTermsAtPoint 94 = .ok (.pop, 1) := by decide +kernel
theorem dX4_findTermsAtPoint_95 : decode cX4_findTermsAtPoint 95 = .ok (.iconst 0, 1) := by decide +kernel
theorem dX4_findTermsAtPoint_96 : decode cX4_findTermsAtPoint 96 = .ok (.istore_n 2, 1) := by decide +kernel
theorem dX4_findTermsAtPoint_97 : decode cX4_findTermsAtPoint 97 = .ok (.iload_n 2, 1) := by decide +kernel
theorem dX4_findTermsAtPoint_98 : decode cX4_findTermsAtPoint 98 = .ok (.aload_n 0, 1) := by decide +kernel
theorem dX4_findTermsAtPoint_99 : decode cX4_findTermsAtPoint 99 = .ok (.getfield 12, 3) := by decide +kernel
theorem dX4_findTermsAtPoint_102 : decode cX4_findTermsAtPoint 102 = .ok (.getfield 71, 3) := by decide +kernel
theorem dX4_findTermsAtPoint_105 : decode cX4_findTermsAtPoint 105 = .ok (.if_icmp .ge 70, 3) := by decide +kernel
theorem dX4_findTermsAtPoint_108 : decode cX4_findTermsAtPoint 108 = .ok (.aload_n 0, 1) := by decide +kernel
theorem dX4_findTermsAtPoint_109 : decode cX4_findTermsAtPoint 109 = .ok (.getfield 12, 3) := by decide +kernel
theorem dX4_findTermsAtPoint_112 : decode cX4_findTermsAtPoint 112 = .ok (.getfield 112, 3) := by decide +kernel
theorem dX4_findTermsAtPoint_115 : decode cX4_findTermsAtPoint 115 = .ok (.iload_n 2, 1) := by decide +kernel
theorem dX4_findTermsAtPoint_116 : decode cX4_findTermsAtPoint 116 = .ok (.iaload, 1) := by decide +kernel
theorem dX4_findTermsAtPoint_117 : decode cX4_findTermsAtPoint 117 = .ok (.aload_n 0, 1) := by decide +kernel
theorem dX4_findTermsAtPoint_118 : decode cX4_findTermsAtPoint 118 = .ok (.getfield 36, 3) := by decide +kernel
theorem dX4_findTermsAtPoint_121 : decode cX4_findTermsAtPoint 121 = .ok (.if_icmp .ge 6, 3) := by decide +kernel
theorem dX4_findTermsAtPoint_124 : decode cX4_findTermsAtPoint 124 = .ok (.goto 45, 3) := by decide +kernel
theorem dX4_findTermsAtPoint_127 : decode cX4_findTermsAtPoint 127 = .ok (.aload_n 0, 1) := by decide +kernel
theorem dX4_findTermsAtPoint_128 : decode cX4_findTermsAtPoint 128 = .ok (.getfield 46, 3) := by decide +kernel
theorem dX4_findTermsAtPoint_131 : decode cX4_findTermsAtPoint 131 = .ok (.getfield 93, 3) := by decide +kernel
theorem dX4_findTermsAtPoint_134 : decode cX4_findTermsAtPoint 134 = .ok (.iload_n 2, 1) := by decide +kernel
theorem dX4_findTermsAtPoint_135 : decode cX4_findTermsAtPoint 135 = .ok (.iaload, 1) := by decide +kernel
theorem dX4_findTermsAtPoint_136 : decode cX4_findTermsAtPoint 136 = .ok (.i2l, 1) := by decide +kernel
theorem dX4_findTermsAtPoint_137 : decode cX4_findTermsAtPoint 137 = .ok (.aload_n 0, 1) := by decide +kernel
theorem dX4_findTermsAtPoint_138 : decode cX4_findTermsAtPoint 138 = .ok (.getfield 20, 3) := by decide +kernel
theorem dX4_findTermsAtPoint_141 : decode cX4_findTermsAtPoint 141 = .ok (.iload_n 2, 1) := by decide +kernel
theorem dX4_findTermsAtPoint_142 : decode cX4_findTermsAtPoint 142 = .ok (.aaload, 1) := by decide +kernel
theorem dX4_findTermsAtPoint_143 : decode cX4_findTermsAtPoint 143 = .ok (.aload_n 0, 1) := by decide +kernel
theorem dX4_findTermsAtPoint_144 : decode cX4_findTermsAtPoint 144 = .ok (.getfield 39, 3) := by decide +kernel
