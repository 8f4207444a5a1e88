theorem dJ2_compress_39247_7 : decode cJ2_compress_39247 7 = .ok (.iconst 0, 1) := by decide +kernel
theorem dJ2_compress_39247_8 : decode cJ2_compress_39247 8 = .ok (.iload_n 2, 1) := by decide +kernel
theorem dJ2_compress_39247_9 : decode cJ2_compress_39247 9 = .ok (.invokestatic 123, 3) := by decide +kernel
theorem dJ2_compress_39247_12 : decode cJ2_compress_39247 12 = .ok (.istore 4, 2) := by decide +kernel
theorem dJ2_compress_39247_14 : decode cJ2_compress_39247 14 = .ok (.iload 4, 2) := by decide +kernel
theorem dJ2_compress_39247_16 : decode cJ2_compress_39247 16 = .ok (.iload_n 2, 1) := by decide +kernel
theorem dJ2_compress_39247_17 : decode cJ2_compress_39247 17 = .ok (.if_icmp .eq 47, 3) := by decide +kernel
theorem dJ2_compress_39247_20 : decode cJ2_compress_39247 20 = .ok (.aload_n 0, 1) := by decide +kernel
theorem dJ2_compress_39247_21 : decode cJ2_compress_39247 21 = .ok (.iload_n 1, 1) := by decide +kernel
theorem dJ2_compress_39247_22 : decode cJ2_compress_39247 22 = .ok (.iconst 1, 1) := by decide +kernel
theorem dJ2_compress_39247_23 : decode cJ2_compress_39247 23 = .ok (.ishl, 1) := by decide +kernel
theorem dJ2_compress_39247_24 : decode cJ2_compress_39247 24 = .ok (.iload_n 1, 1) := by decide +kernel
theorem dJ2_compress_39247_25 : decode cJ2_compress_39247 25 = .ok (.iload_n 2, 1) := by decide +kernel
theorem dJ2_compress_39247_26 : decode cJ2_compress_39247 26 = .ok (.iadd, 1) := by decide +kernel
theorem dJ2_compress_39247_27 : decode cJ2_compress_39247 27 = .ok (.invokestatic 11, 3) := by decide +kernel
theorem dJ2_compress_39247_30 : decode cJ2_compress_39247 30 = .ok (.invokestatic 126, 3) := by decide +kernel
theorem dJ2_compress_39247_33 : decode cJ2_compress_39247 33 = .ok (.astore 5, 2) := by decide +kernel
theorem dJ2_compress_39247_35 : decode cJ2_compress_39247 35 = .ok (.aload 5, 2) := by decide +kernel
theorem dJ2_compress_39247_37 : decode cJ2_compress_39247 37 = .ok (.iload 4, 2) := by decide +kernel
theorem dJ2_compress_39247_39 : decode cJ2_compress_39247 39 = .ok (.invokestatic 71, 3) := by decide +kernel
theorem dJ2_compress_39247_42 : decode cJ2_compress_39247 42 = .ok (.sipush 255, 3) := by decide +kernel
theorem dJ2_compress_39247_45 : decode cJ2_compress_39247 45 = .ok (.if_icmp .gt 16, 3) := by decide +kernel
theorem dJ2_compress_39247_48 : decode cJ2_compress_39247 48 = .ok (.aload 5, 2) := by decide +kernel
theorem dJ2_compress_39247_50 : decode cJ2_compress_39247 50 = .ok (.iconst 0, 1) := by decide +kernel
theorem dJ2_compress_39247_51 : decode cJ2_compress_39247 51 = .ok (.aload_n 3, 1) := by decide +kernel
theorem dJ2_compress_39247_52 : decode cJ2_compress_39247 52 = .ok (.iconst 0, 1) := by decide +kernel
theorem dJ2_compress_39247_53 : decode cJ2_compress_39247 53 = .ok (.iload_n 2, 1) := by decide +kernel
theorem dJ2_compress_39247_54 : decode cJ2_compress_39247 54 = .ok (.invokestatic 123, 3) := by decide +kernel
theorem dJ2_compress_39247_57 : decode cJ2_compress_39247 57 = .ok (.iload_n 2, 1) := by decide +kernel
theorem dJ2_compress_39247_58 : decode cJ2_compress_39247 58 = .ok (.if_icmp .eq 6, 3) := by decide +kernel
theorem dJ2_compress_39247_61 : decode cJ2_compress_39247 61 = .ok (.aload 5, 2) := by decide +kernel
theorem dJ2_compress_39247_63 : decode cJ2_compress_39247 63 = .ok (.areturn, 1) := by decide +kernel
theorem dJ2_compress_39247_64 : decode cJ2_compress_39247 64 = .ok (.aload_n 3, 1) := by decide +kernel
theorem dJ2_compress_39247_65 : decode cJ2_compress_39247 65 = .ok (.areturn, 1) := by decide +kernel
theorem dJ2_compress_5af95_0 : decode cJ2_compress_5af95 0 = .ok (.iload_n 1, 1) := by decide +kernel
theorem dJ2_compress_5af95_1 : decode cJ2_compress_5af95 1 = .ok (.iload 4, 2) := by decide +kernel
theorem dJ2_compress_5af95_3 : decode cJ2_compress_5af95 3 = .ok (.aload_n 0, 1) := by decide +kernel
theorem dJ2_compress_5af95_4 : decode cJ2_compress_5af95 4 = .ok (.invokestatic 173, 3) := by decide +kernel
theorem dJ2_compress_5af95_7 : decode cJ2_compress_5af95 7 = .ok (.iconst 0, 1) := by decide +kernel
theorem dJ2_compress_5af95_8 : decode cJ2_compress_5af95 8 = .ok (.istore 5, 2) := by decide +kernel
theorem dJ2_compress_5af95_10 : decode cJ2_compress_5af95 10 = .ok (.iload 5, 2) := by decide +kernel
theorem dJ2_compress_5af95_12 : decode cJ2_compress_5af95 12 = .ok (.iload 4, 2) := by decide +kernel
theorem dJ2_compress_5af95_14 : decode cJ2_compress_5af95 14 = .ok (.if_icmp .ge 39, 3) := by decide +kernel
theorem dJ2_compress_5af95_17 : decode cJ2_compress_5af95 17 = .ok (.aload_n 0, 1) := by decide +kernel
theorem dJ2_compress_5af95_18 : decode cJ2_compress_5af95 18 = .ok (.iload_n 1, 1) := by decide +kernel
theorem dJ2_compress_5af95_19 : decode cJ2_compress_5af95 19 = .ok (.invokestatic 71, 3) := by decide +kernel
theorem dJ2_compress_5af95_22 : decode cJ2_compress_5af95 22 = .ok (.istore 6, 2) := by decide +kernel
theorem dJ2_compress_5af95_24 : decode cJ2_compress_5af95 24 = .ok (.iload 6, 2) := by decide +kernel
theorem dJ2_compress_5af95_26 : decode cJ2_compress_5af95 26 = .ok (.sipush 255, 3) := by decide +kernel
theorem dJ2_compress_5af95_29 : decode cJ2_compress_5af95 29 = .ok (.if_icmp .le 6, 3) := by decide +kernel
theorem dJ2_compress_5af95_32 : decode cJ2_compress_5af95 32 = .ok (.iload 5, 2) := by decide +kernel
theorem dJ2_compress_5af95_34 : decode cJ2_compress_5af95 34 = .ok (.ireturn, 1) := by decide +kernel
theorem dJ2_compress_5af95_35 : decode cJ2_compress_5af95 35 = .ok (.aload_n 2, 1) := by decide +kernel
theorem dJ2_compress_5af95_36 : decode cJ2_compress_5af95 36 = .ok (.iload_n 3, 1) := by decide +kernel
theorem dJ2_compress_5af95_37 : decode cJ2_compress_5af95 37 = .ok (.iload 6, 2) := by decide +kernel
theorem dJ2_compress_5af95_39 : decode cJ2_compress_5af95 39 = .ok (.i2b, 1) := by decide +kernel
theorem dJ2_compress_5af95_40 : decode cJ2_compress_5af95 40 = .ok (.bastore, 1) := by decide +kernel
theorem dJ2_compress_5af95_41 : decode cJ2_compress_5af95 41 = .ok (.iinc 1 1, 3) := by decide +kernel
theorem dJ2_compress_5af95_44 : decode cJ2_compress_5af95 44 = .ok (.iinc 3 1, 3) := by decide +kernel
theorem dJ2_compress_5af95_47 : decode cJ2_compress_5af95 47 = .ok (.iinc 5 1, 3) := by decide +kernel
theorem dJ2_compress_5af95_50 : decode cJ2_compress_5af95 50 = .ok (.goto (-40), 3) := by decide +kernel
theorem dJ2_compress_5af95_53 : decode cJ2_compress_5af95 53 = .ok (.iload 4, 2) := by decide +kernel
theorem dJ2_compress_5af95_55 : decode cJ2_compress_5af95 55 = .ok (.ireturn, 1) := by decide +kernel
theorem dJ2_putCharSB_b72d1_0 : decode cJ2_putCharSB_b72d1 0 = .ok (.iload_n 1, 1) := by decide +kernel
theorem dJ2_putCharSB_b72d1_1 : decode cJ2_putCharSB_b72d1 1 = .ok (.aload_n 0, 1) := by decide +kernel
theorem dJ2_putCharSB_b72d1_2 : decode cJ2_putCharSB_b72d1 2 = .ok (.invokestatic 67, 3) := by decide +kernel
theorem dJ2_putCharSB_b72d1_5 : decode cJ2_putCharSB_b72d1 5 = .ok (.aload_n 0, 1) := by decide +kernel
theorem dJ2_putCharSB_b72d1_6 : decode cJ2_putCharSB_b72d1 6 = .ok (.iload_n 1, 1) := by decide +kernel
theorem dJ2_putCharSB_b72d1_7 : decode cJ2_putCharSB_b72d1 7 = .ok (.iload_n 2, 1) := by decide +kernel
theorem dJ2_putCharSB_b72d1_8 : decode cJ2_putCharSB_b72d1 8 = .ok (.invokestatic 111, 3) := by decide +kernel
theorem dJ2_putCharSB_b72d1_11 : decode cJ2_putCharSB_b72d1 11 = .ok (.return_, 1) := by decide +kernel
theorem dJ2_charAt_3b067_0 : decode cJ2_charAt_3b067 0 = .ok (.iload_n 1, 1) := by decide +kernel
theorem dJ2_charAt_3b067_1 : decode cJ2_charAt_3b067 1 = .ok (.aload_n 0, 1) := by decide +kernel
theorem dJ2_charAt_3b067_2 : decode cJ2_charAt_3b067 2 = .ok (.invokestatic 67, 3) := by decide +kernel
theorem dJ2_charAt_3b067_5 : decode cJ2_charAt_3b067 5 = .ok (.aload_n 0, 1) := by decide +kernel
theorem dJ2_charAt_3b067_6 : decode cJ2_charAt_3b067 6 = .ok (.iload_n 1, 1) := by decide +kernel
theorem dJ2_charAt_3b067_7 : decode cJ2_charAt_3b067 7 = .ok (.invokestatic 71, 3) := by decide +kernel
theorem dJ2_charAt_3b067_10 : decode cJ2_charAt_3b067 10 = .ok (.ireturn, 1) := by decide +kernel
theorem dJ2_inflate_0e8fd_0 : decode cJ2_inflate_0e8fd 0 = .ok (.iload_n 3, 1) := by decide +kernel
theorem dJ2_inflate_0e8fd_1 : decode cJ2_inflate_0e8fd 1 = .ok (.iload 4, 2) := by decide +kernel
theorem dJ2_inflate_0e8fd_3 : decode cJ2_inflate_0e8fd 3 = .ok (.aload_n 2, 1) := by decide +kernel
theorem dJ2_inflate_0e8fd_4 : decode cJ2_inflate_0e8fd 4 = .ok (.invokestatic 173, 3) := by decide +kernel
theorem dJ2_inflate_0e8fd_7 : decode cJ2_inflate_0e8fd 7 = .ok (.iconst 0, 1) := by decide +kernel
theorem dJ2_inflate_0e8fd_8 : decode cJ2_inflate_0e8fd 8 = .ok (.istore 5, 2) := by decide +kernel
theorem dJ2_inflate_0e8fd_10 : decode cJ2_inflate_0e8fd 10 = .ok (.iload 5, 2) := by decide +kernel
theorem dJ2_inflate_0e8fd_12 : decode cJ2_inflate_0e8fd 12 = .ok (.iload 4, 2) := by decide +kernel
theorem dJ2_inflate_0e8fd_14 : decode cJ2_inflate_0e8fd 14 = .ok (.if_icmp .ge 27, 3) := by decide +kernel
theorem dJ2_inflate_0e8fd_17 : decode cJ2_inflate_0e8fd 17 = .ok (.aload_n 2, 1) := by decide +kernel
theorem dJ2_inflate_0e8fd_18 : decode cJ2_inflate_0e8fd 18 = .ok (.iload_n 3, 1) := by decide +kernel
theorem dJ2_inflate_0e8fd_19 : decode cJ2_inflate_0e8fd 19 = .ok (.iinc 3 1, 3) := by decide +kernel
theorem dJ2_inflate_0e8fd_22 : decode cJ2_inflate_0e8fd 22 = .ok (.aload_n 0, 1) := by decide +kernel
theorem dJ2_inflate_0e8fd_23 : decode cJ2_inflate_0e8fd 23 = .ok (.iload_n 1, 1) := by decide +kernel
theorem dJ2_inflate_0e8fd_24 : decode cJ2_inflate_0e8fd 24 = .ok (.iinc 1 1, 3) := by decide +kernel
theorem dJ2_inflate_0e8fd_27 : decode cJ2_inflate_0e8fd 27 = .ok (.baload, 1) := by decide +kernel
theorem dJ2_inflate_0e8fd_28 : decode cJ2_inflate_0e8fd 28 = .ok (.sipush 255, 3) := by decide +kernel
theorem dJ2_inflate_0e8fd_31 : decode cJ2_inflate_0e8fd 31 = .ok (.iand, 1) := by decide +kernel
theorem dJ2_inflate_0e8fd_32 : decode cJ2_inflate_0e8fd 32 = .ok (.invokestatic 111, 3) := by decide +kernel
theorem dJ2_inflate_0e8fd_35 : decode cJ2_inflate_0e8fd 35 = .ok (.iinc 5 1, 3) := by decide +kernel
theorem dJ2_inflate_0e8fd_38 : decode cJ2_inflate_0e8fd 38 = .ok (.goto (-28), 3) := by decide +kernel
theorem dJ2_inflate_0e8fd_41 : decode cJ2_inflate_0e8fd 41 = .ok (.return_, 1) := by decide +kernel
theorem dJ2_checkIndex_2214a_0 : decode cJ2_checkIndex_2214a 0 = .ok (.iload_n 0, 1) := by decide +kernel
theorem dJ2_checkIndex_2214a_1 : decode cJ2_checkIndex_2214a 1 = .ok (.aload_n 1, 1) := by decide +kernel
theorem dJ2_checkIndex_2214a_2 : decode cJ2_checkIndex_2214a 2 = .ok (.invokestatic 48, 3) := by decide +kernel
theorem dJ2_checkIndex_2214a_5 : decode cJ2_checkIndex_2214a 5 = .ok (.invokestatic 414, 3) := by decide +kernel
theorem dJ2_checkIndex_2214a_8 : decode cJ2_checkIndex_2214a 8 = .ok (.return_, 1) := by decide +kernel
theorem dJ2_checkBoundsOffCount_d044e_0 : decode cJ2_checkBoundsOffCount_d044e 0 = .ok (.iload_n 0, 1) := by decide +kernel
theorem dJ2_checkBoundsOffCount_d044e_1 : decode cJ2_checkBoundsOffCount_d044e 1 = .ok (.iload_n 1, 1) := by decide +kernel
theorem dJ2_checkBoundsOffCount_d044e_2 : decode cJ2_checkBoundsOffCount_d044e 2 = .ok (.aload_n 2, 1) := by decide +kernel
theorem dJ2_checkBoundsOffCount_d044e_3 : decode cJ2_checkBoundsOffCount_d044e 3 = .ok (.invokestatic 48, 3) := by decide +kernel
theorem dJ2_checkBoundsOffCount_d044e_6 : decode cJ2_checkBoundsOffCount_d044e 6 = .ok (.invokestatic 419, 3) := by decide +kernel
theorem dJ2_checkBoundsOffCount_d044e_9 : decode cJ2_checkBoundsOffCount_d044e 9 = .ok (.pop, 1) := by decide +kernel
theorem dJ2_checkBoundsOffCount_d044e_10 : decode cJ2_checkBoundsOffCount_d044e 10 = .ok (.return_, 1) := by decide +kernel
theorem dJ7_fill_d0a16_0 : decode cJ7_fill_d0a16 0 = .ok (.iconst 0, 1) := by decide +kernel
theorem dJ7_fill_d0a16_1 : decode cJ7_fill_d0a16 1 = .ok (.istore_n 3, 1) := by decide +kernel
theorem dJ7_fill_d0a16_2 : decode cJ7_fill_d0a16 2 = .ok (.aload_n 0, 1) := by decide +kernel
theorem dJ7_fill_d0a16_3 : decode cJ7_fill_d0a16 3 = .ok (.arraylength, 1) := by decide +kernel
theorem dJ7_fill_d0a16_4 : decode cJ7_fill_d0a16 4 = .ok (.istore 4, 2) := by decide +kernel
theorem dJ7_fill_d0a16_6 : decode cJ7_fill_d0a16 6 = .ok (.iload_n 3, 1) := by decide +kernel
theorem dJ7_fill_d0a16_7 : decode cJ7_fill_d0a16 7 = .ok (.iload 4, 2) := by decide +kernel
theorem dJ7_fill_d0a16_9 : decode cJ7_fill_d0a16 9 = .ok (.if_icmp .ge 13, 3) := by decide +kernel
theorem dJ7_fill_d0a16_12 : decode cJ7_fill_d0a16 12 = .ok (.aload_n 0, 1) := by decide +kernel
theorem dJ7_fill_d0a16_13 : decode cJ7_fill_d0a16 13 = .ok (.iload_n 3, 1) := by decide +kernel
theorem dJ7_fill_d0a16_14 : decode cJ7_fill_d0a16 14 = .ok (.lload_n 1, 1) := by decide +kernel
theorem dJ7_fill_d0a16_15 : decode cJ7_fill_d0a16 15 = .ok (.lastore, 1) := by decide +kernel
theorem dJ7_fill_d0a16_16 : decode cJ7_fill_d0a16 16 = .ok (.iinc 3 1, 3) := by decide +kernel
theorem dJ7_fill_d0a16_19 : decode cJ7_fill_d0a16 19 = .ok (.goto (-13), 3) := by decide +kernel
theorem dJ7_fill_d0a16_22 : decode cJ7_fill_d0a16 22 = .ok (.return_, 1) := by decide +kernel
theorem dJ7_fill_53178_0 : decode cJ7_fill_53178 0 = .ok (.iconst 0, 1) := by decide +kernel
theorem dJ7_fill_53178_1 : decode cJ7_fill_53178 1 = .ok (.istore_n 2, 1) := by decide +kernel
theorem dJ7_fill_53178_2 : decode cJ7_fill_53178 2 = .ok (.aload_n 0, 1) := by decide +kernel
theorem dJ7_fill_53178_3 : decode cJ7_fill_53178 3 = .ok (.arraylength, 1) := by decide +kernel
theorem dJ7_fill_53178_4 : decode cJ7_fill_53178 4 = .ok (.istore_n 3, 1) := by decide +kernel
theorem dJ7_fill_53178_5 : decode cJ7_fill_53178 5 = .ok (.iload_n 2, 1) := by decide +kernel
theorem dJ7_fill_53178_6 : decode cJ7_fill_53178 6 = .ok (.iload_n 3, 1) := by decide +kernel
theorem dJ7_fill_53178_7 : decode cJ7_fill_53178 7 = .ok (.if_icmp .ge 13, 3) := by decide +kernel
theorem dJ7_fill_53178_10 : decode cJ7_fill_53178 10 = .ok (.aload_n 0, 1) := by decide +kernel
theorem dJ7_fill_53178_11 : decode cJ7_fill_53178 11 = .ok (.iload_n 2, 1) := by decide +kernel
theorem dJ7_fill_53178_12 : decode cJ7_fill_53178 12 = .ok (.iload_n 1, 1) := by decide +kernel
theorem dJ7_fill_53178_13 : decode cJ7_fill_53178 13 = .ok (.iastore, 1) := by decide +kernel
theorem dJ7_fill_53178_14 : decode cJ7_fill_53178 14 = .ok (.iinc 2 1, 3) := by decide +kernel
theorem dJ7_fill_53178_17 : decode cJ7_fill_53178 17 = .ok (.goto (-12), 3) := by decide +kernel
theorem dJ7_fill_53178_20 : decode cJ7_fill_53178 20 = .ok (.return_, 1) := by decide +kernel
theorem dJ7_copyOf_9075b_0 : decode cJ7_copyOf_9075b 0 = .ok (.iload_n 1, 1) := by decide +kernel
theorem dJ7_copyOf_9075b_1 : decode cJ7_copyOf_9075b 1 = .ok (.aload_n 0, 1) := by decide +kernel
theorem dJ7_copyOf_9075b_2 : decode cJ7_copyOf_9075b 2 = .ok (.arraylength, 1) := by decide +kernel
theorem dJ7_copyOf_9075b_3 : decode cJ7_copyOf_9075b 3 = .ok (.if_icmp .ne 11, 3) := by decide +kernel
theorem dJ7_copyOf_9075b_6 : decode cJ7_copyOf_9075b 6 = .ok (.aload_n 0, 1) := by decide +kernel
theorem dJ7_copyOf_9075b_7 : decode cJ7_copyOf_9075b 7 = .ok (.invokevirtual 310, 3) := by decide +kernel
theorem dJ7_copyOf_9075b_10 : decode cJ7_copyOf_9075b 10 = .ok (.checkcast 311, 3) := by decide +kernel
theorem dJ7_copyOf_9075b_13 : decode cJ7_copyOf_9075b 13 = .ok (.areturn, 1) := by decide +kernel
theorem dJ7_copyOf_9075b_14 : decode cJ7_copyOf_9075b 14 = .ok (.iload_n 1, 1) := by decide +kernel
theorem dJ7_copyOf_9075b_15 : decode cJ7_copyOf_9075b 15 = .ok (.newarray .byte, 2) := by decide +kernel
theorem dJ7_copyOf_9075b_17 : decode cJ7_copyOf_9075b 17 = .ok (.astore_n 2, 1) := by decide +kernel
theorem dJ7_copyOf_9075b_18 : decode cJ7_copyOf_9075b 18 = .ok (.aload_n 0, 1) := by decide +kernel
theorem dJ7_copyOf_9075b_19 : decode cJ7_copyOf_9075b 19 = .ok (.iconst 0, 1) := by decide +kernel
theorem dJ7_copyOf_9075b_20 : decode cJ7_copyOf_9075b 20 = .ok (.aload_n 2, 1) := by decide +kernel
theorem dJ7_copyOf_9075b_21 : decode cJ7_copyOf_9075b 21 = .ok (.iconst 0, 1) := by decide +kernel
theorem dJ7_copyOf_9075b_22 : decode cJ7_copyOf_9075b 22 = .ok (.aload_n 0, 1) := by decide +kernel
theorem dJ7_copyOf_9075b_23 : decode cJ7_copyOf_9075b 23 = .ok (.arraylength, 1) := by decide +kernel
theorem dJ7_copyOf_9075b_24 : decode cJ7_copyOf_9075b 24 = .ok (.iload_n 1, 1) := by decide +kernel
theorem dJ7_copyOf_9075b_25 : decode cJ7_copyOf_9075b 25 = .ok (.invokestatic 304, 3) := by decide +kernel
theorem dJ7_copyOf_9075b_28 : decode cJ7_copyOf_9075b 28 = .ok (.invokestatic 150, 3) := by decide +kernel
theorem dJ7_copyOf_9075b_31 : decode cJ7_copyOf_9075b 31 = .ok (.aload_n 2, 1) := by decide +kernel
theorem dJ7_copyOf_9075b_32 : decode cJ7_copyOf_9075b 32 = .ok (.areturn, 1) := by decide +kernel
theorem dJ7_checkLength_df160_0 : decode cJ7_checkLength_df160 0 = .ok (.iload_n 1, 1) := by decide +kernel
theorem dJ7_checkLength_df160_1 : decode cJ7_checkLength_df160 1 = .ok (.iload_n 0, 1) := by decide +kernel
theorem dJ7_checkLength_df160_2 : decode cJ7_checkLength_df160 2 = .ok (.if_icmp .ge 35, 3) := by decide +kernel
theorem dJ7_checkLength_df160_5 : decode cJ7_checkLength_df160 5 = .ok (.new 43, 3) := by decide +kernel
theorem dJ7_checkLength_df160_8 : decode cJ7_checkLength_df160 8 = .ok (.dup, 1) := by decide +kernel
theorem dJ7_checkLength_df160_9 : decode cJ7_checkLength_df160 9 = .ok (.new 45, 3) := by decide +kernel
theorem dJ7_checkLength_df160_12 : decode cJ7_checkLength_df160 12 = .ok (.dup, 1) := by decide +kernel
theorem dJ7_checkLength_df160_13 : decode cJ7_checkLength_df160 13 = .ok (.invokespecial 47, 3) := by decide +kernel
theorem dJ7_checkLength_df160_16 : decode cJ7_checkLength_df160 16 = .ok (.iload_n 0, 1) := by decide +kernel
theorem dJ7_checkLength_df160_17 : decode cJ7_checkLength_df160 17 = .ok (.invokevirtual 54, 3) := by decide +kernel
theorem dJ7_checkLength_df160_20 : decode cJ7_checkLength_df160 20 = .ok (.ldc_w 337, 3) := by decide +kernel
theorem dJ7_checkLength_df160_23 : decode cJ7_checkLength_df160 23 = .ok (.invokevirtual 50, 3) := by decide +kernel
theorem dJ7_checkLength_df160_26 : decode cJ7_checkLength_df160 26 = .ok (.iload_n 1, 1) := by decide +kernel
theorem dJ7_checkLength_df160_27 : decode cJ7_checkLength_df160 27 = .ok (.invokevirtual 54, 3) := by decide +kernel
theorem dJ7_checkLength_df160_30 : decode cJ7_checkLength_df160 30 = .ok (.invokevirtual 61, 3) := by decide +kernel
theorem dJ7_checkLength_df160_33 : decode cJ7_checkLength_df160 33 = .ok (.invokespecial 65, 3) := by decide +kernel
theorem dJ7_checkLength_df160_36 : decode cJ7_checkLength_df160 36 = .ok (.athrow, 1) := by decide +kernel
theorem dJ7_checkLength_df160_37 : decode cJ7_checkLength_df160 37 = .ok (.return_, 1) := by decide +kernel
theorem dJ7_copyOfRange_39247_0 : decode cJ7_copyOfRange_39247 0 = .ok (.iload_n 1, 1) := by decide +kernel
theorem dJ7_copyOfRange_39247_1 : decode cJ7_copyOfRange_39247 1 = .ok (.ifCond .ne 9, 3) := by decide +kernel
theorem dJ7_copyOfRange_39247_4 : decode cJ7_copyOfRange_39247 4 = .ok (.iload_n 2, 1) := by decide +kernel
theorem dJ7_copyOfRange_39247_5 : decode cJ7_copyOfRange_39247 5 = .ok (.aload_n 0, 1) := by decide +kernel
theorem dJ7_copyOfRange_39247_6 : decode cJ7_copyOfRange_39247 6 = .ok (.arraylength, 1) := by decide +kernel
theorem dJ7_copyOfRange_39247_7 : decode cJ7_copyOfRange_39247 7 = .ok (.if_icmp .eq 10, 3) := by decide +kernel
theorem dJ7_copyOfRange_39247_10 : decode cJ7_copyOfRange_39247 10 = .ok (.aload_n 0, 1) := by decide +kernel
theorem dJ7_copyOfRange_39247_11 : decode cJ7_copyOfRange_39247 11 = .ok (.iload_n 1, 1) := by decide +kernel
theorem dJ7_copyOfRange_39247_12 : decode cJ7_copyOfRange_39247 12 = .ok (.iload_n 2, 1) := by decide +kernel
theorem dJ7_copyOfRange_39247_13 : decode cJ7_copyOfRange_39247 13 = .ok (.invokestatic 339, 3) := by decide +kernel
theorem dJ7_copyOfRange_39247_16 : decode cJ7_copyOfRange_39247 16 = .ok (.areturn, 1) := by decide +kernel
theorem dJ7_copyOfRange_39247_17 : decode cJ7_copyOfRange_39247 17 = .ok (.aload_n 0, 1) := by decide +kernel
theorem dJ7_copyOfRange_39247_18 : decode cJ7_copyOfRange_39247 18 = .ok (.invokevirtual 310, 3) := by decide +kernel
theorem dJ7_copyOfRange_39247_21 : decode cJ7_copyOfRange_39247 21 = .ok (.checkcast 311, 3) := by decide +kernel
theorem dJ7_copyOfRange_39247_24 : decode cJ7_copyOfRange_39247 24 = .ok (.areturn, 1) := by decide +kernel
theorem dJ7_copyOfRangeByte_39247_0 : decode cJ7_copyOfRangeByte_39247 0 = .ok (.iload_n 1, 1) := by decide +kernel
theorem dJ7_copyOfRangeByte_39247_1 : decode cJ7_copyOfRangeByte_39247 1 = .ok (.iload_n 2, 1) := by decide +kernel
theorem dJ7_copyOfRangeByte_39247_2 : decode cJ7_copyOfRangeByte_39247 2 = .ok (.invokestatic 343, 3) := by decide +kernel
theorem dJ7_copyOfRangeByte_39247_5 : decode cJ7_copyOfRangeByte_39247 5 = .ok (.iload_n 2, 1) := by decide +kernel
theorem dJ7_copyOfRangeByte_39247_6 : decode cJ7_copyOfRangeByte_39247 6 = .ok (.iload_n 1, 1) := by decide +kernel
theorem dJ7_copyOfRangeByte_39247_7 : decode cJ7_copyOfRangeByte_39247 7 = .ok (.isub, 1) := by decide +kernel
theorem dJ7_copyOfRangeByte_39247_8 : decode cJ7_copyOfRangeByte_39247 8 = .ok (.istore_n 3, 1) := by decide +kernel
theorem dJ7_copyOfRangeByte_39247_9 : decode cJ7_copyOfRangeByte_39247 9 = .ok (.iload_n 3, 1) := by decide +kernel
theorem dJ7_copyOfRangeByte_39247_10 : decode cJ7_copyOfRangeByte_39247 10 = .ok (.newarray .byte, 2) := by decide +kernel
theorem dJ7_copyOfRangeByte_39247_12 : decode cJ7_copyOfRangeByte_39247 12 = .ok (.astore 4, 2) := by decide +kernel
theorem dJ7_copyOfRangeByte_39247_14 : decode cJ7_copyOfRangeByte_39247 14 = .ok (.aload_n 0, 1) := by decide +kernel
theorem dJ7_copyOfRangeByte_39247_15 : decode cJ7_copyOfRangeByte_39247 15 = .ok (.iload_n 1, 1) := by decide +kernel
theorem dJ7_copyOfRangeByte_39247_16 : decode cJ7_copyOfRangeByte_39247 16 = .ok (.aload 4, 2) := by decide +kernel
theorem dJ7_copyOfRangeByte_39247_18 : decode cJ7_copyOfRangeByte_39247 18 = .ok (.iconst 0, 1) := by decide +kernel
theorem dJ7_copyOfRangeByte_39247_19 : decode cJ7_copyOfRangeByte_39247 19 = .ok (.aload_n 0, 1) := by decide +kernel
theorem dJ7_copyOfRangeByte_39247_20 : decode cJ7_copyOfRangeByte_39247 20 = .ok (.arraylength, 1) := by decide +kernel
theorem dJ7_copyOfRangeByte_39247_21 : decode cJ7_copyOfRangeByte_39247 21 = .ok (.iload_n 1, 1) := by decide +kernel
theorem dJ7_copyOfRangeByte_39247_22 : decode cJ7_copyOfRangeByte_39247 22 = .ok (.isub, 1) := by decide +kernel
theorem dJ7_copyOfRangeByte_39247_23 : decode cJ7_copyOfRangeByte_39247 23 = .ok (.iload_n 3, 1) := by decide +kernel
theorem dJ7_copyOfRangeByte_39247_24 : decode cJ7_copyOfRangeByte_39247 24 = .ok (.invokestatic 304, 3) := by decide +kernel
theorem dJ7_copyOfRangeByte_39247_27 : decode cJ7_copyOfRangeByte_39247 27 = .ok (.invokestatic 150, 3) := by decide +kernel
theorem dJ7_copyOfRangeByte_39247_30 : decode cJ7_copyOfRangeByte_39247 30 = .ok (.aload 4, 2) := by decide +kernel
theorem dJ7_copyOfRangeByte_39247_32 : decode cJ7_copyOfRangeByte_39247 32 = .ok (.areturn, 1) := by decide +kernel
theorem dJ8_newLength_cabcc_0 : decode cJ8_newLength_cabcc 0 = .ok (.iload_n 0, 1) := by decide +kernel
theorem dJ8_newLength_cabcc_1 : decode cJ8_newLength_cabcc 1 = .ok (.iload_n 1, 1) := by decide +kernel
theorem dJ8_newLength_cabcc_2 : decode cJ8_newLength_cabcc 2 = .ok (.iload_n 2, 1) := by decide +kernel
theorem dJ8_newLength_cabcc_3 : decode cJ8_newLength_cabcc 3 = .ok (.invokestatic 194, 3) := by decide +kernel
theorem dJ8_newLength_cabcc_6 : decode cJ8_newLength_cabcc 6 = .ok (.iadd, 1) := by decide +kernel
theorem dJ8_newLength_cabcc_7 : decode cJ8_newLength_cabcc 7 = .ok (.istore_n 3, 1) := by decide +kernel
theorem dJ8_newLength_cabcc_8 : decode cJ8_newLength_cabcc 8 = .ok (.iconst 0, 1) := by decide +kernel
theorem dJ8_newLength_cabcc_9 : decode cJ8_newLength_cabcc 9 = .ok (.iload_n 3, 1) := by decide +kernel
theorem dJ8_newLength_cabcc_10 : decode cJ8_newLength_cabcc 10 = .ok (.if_icmp .ge 11, 3) := by decide +kernel
theorem dJ8_newLength_cabcc_13 : decode cJ8_newLength_cabcc 13 = .ok (.iload_n 3, 1) := by decide +kernel
theorem dJ8_newLength_cabcc_14 : decode cJ8_newLength_cabcc 14 = .ok (.ldc 200, 2) := by decide +kernel
theorem dJ8_newLength_cabcc_16 : decode cJ8_newLength_cabcc 16 = .ok (.if_icmp .gt 5, 3) := by decide +kernel
theorem dJ8_newLength_cabcc_19 : decode cJ8_newLength_cabcc 19 = .ok (.iload_n 3, 1) := by decide +kernel
theorem dJ8_newLength_cabcc_20 : decode cJ8_newLength_cabcc 20 = .ok (.ireturn, 1) := by decide +kernel
theorem dJ8_newLength_cabcc_21 : decode cJ8_newLength_cabcc 21 = .ok (.iload_n 0, 1) := by decide +kernel
theorem dJ8_newLength_cabcc_22 : decode cJ8_newLength_cabcc 22 = .ok (.iload_n 1, 1) := by decide +kernel
theorem dJ8_newLength_cabcc_23 : decode cJ8_newLength_cabcc 23 = .ok (.invokestatic 201, 3) := by decide +kernel
theorem dJ8_newLength_cabcc_26 : decode cJ8_newLength_cabcc 26 = .ok (.ireturn, 1) := by decide +kernel
theorem dJ8_hugeLength_7cf53_0 : decode cJ8_hugeLength_7cf53 0 = .ok (.iload_n 0, 1) := by decide +kernel
theorem dJ8_hugeLength_7cf53_1 : decode cJ8_hugeLength_7cf53 1 = .ok (.iload_n 1, 1) := by decide +kernel
theorem dJ8_hugeLength_7cf53_2 : decode cJ8_hugeLength_7cf53 2 = .ok (.iadd, 1) := by decide +kernel
theorem dJ8_hugeLength_7cf53_3 : decode cJ8_hugeLength_7cf53 3 = .ok (.istore_n 2, 1) := by decide +kernel
theorem dJ8_hugeLength_7cf53_4 : decode cJ8_hugeLength_7cf53 4 = .ok (.iload_n 2, 1) := by decide +kernel
theorem dJ8_hugeLength_7cf53_5 : decode cJ8_hugeLength_7cf53 5 = .ok (.ifCond .ge 44, 3) := by decide +kernel
theorem dJ8_hugeLength_7cf53_8 : decode cJ8_hugeLength_7cf53 8 = .ok (.new 204, 3) := by decide +kernel
theorem dJ8_hugeLength_7cf53_11 : decode cJ8_hugeLength_7cf53 11 = .ok (.dup, 1) := by decide +kernel
theorem dJ8_hugeLength_7cf53_12 : decode cJ8_hugeLength_7cf53 12 = .ok (.new 89, 3) := by decide +kernel
theorem dJ8_hugeLength_7cf53_15 : decode cJ8_hugeLength_7cf53 15 = .ok (.dup, 1) := by decide +kernel
theorem dJ8_hugeLength_7cf53_16 : decode cJ8_hugeLength_7cf53 16 = .ok (.invokespecial 91, 3) := by decide +kernel
theorem dJ8_hugeLength_7cf53_19 : decode cJ8_hugeLength_7cf53 19 = .ok (.ldc 206, 2) := by decide +kernel
theorem dJ8_hugeLength_7cf53_21 : decode cJ8_hugeLength_7cf53 21 = .ok (.invokevirtual 94, 3) := by decide +kernel
theorem dJ8_hugeLength_7cf53_24 : decode cJ8_hugeLength_7cf53 24 = .ok (.iload_n 0, 1) := by decide +kernel
theorem dJ8_hugeLength_7cf53_25 : decode cJ8_hugeLength_7cf53 25 = .ok (.invokevirtual 98, 3) := by decide +kernel
theorem dJ8_hugeLength_7cf53_28 : decode cJ8_hugeLength_7cf53 28 = .ok (.ldc 208, 2) := by decide +kernel
theorem dJ8_hugeLength_7cf53_30 : decode cJ8_hugeLength_7cf53 30 = .ok (.invokevirtual 94, 3) := by decide +kernel
theorem dJ8_hugeLength_7cf53_33 : decode cJ8_hugeLength_7cf53 33 = .ok (.iload_n 1, 1) := by decide +kernel
theorem dJ8_hugeLength_7cf53_34 : decode cJ8_hugeLength_7cf53 34 = .ok (.invokevirtual 98, 3) := by decide +kernel
theorem dJ8_hugeLength_7cf53_37 : decode cJ8_hugeLength_7cf53 37 = .ok (.ldc 210, 2) := by decide +kernel
theorem dJ8_hugeLength_7cf53_39 : decode cJ8_hugeLength_7cf53 39 = .ok (.invokevirtual 94, 3) := by decide +kernel
theorem dJ8_hugeLength_7cf53_42 : decode cJ8_hugeLength_7cf53 42 = .ok (.invokevirtual 101, 3) := by decide +kernel
theorem dJ8_hugeLength_7cf53_45 : decode cJ8_hugeLength_7cf53 45 = .ok (.invokespecial 212, 3) := by decide +kernel
theorem dJ8_hugeLength_7cf53_48 : decode cJ8_hugeLength_7cf53 48 = .ok (.athrow, 1) := by decide +kernel
theorem dJ8_hugeLength_7cf53_49 : decode cJ8_hugeLength_7cf53 49 = .ok (.iload_n 2, 1) := by decide +kernel
theorem dJ8_hugeLength_7cf53_50 : decode cJ8_hugeLength_7cf53 50 = .ok (.ldc 200, 2) := by decide +kernel
theorem dJ8_hugeLength_7cf53_52 : decode cJ8_hugeLength_7cf53 52 = .ok (.if_icmp .gt 6, 3) := by decide +kernel
theorem dJ8_hugeLength_7cf53_55 : decode cJ8_hugeLength_7cf53 55 = .ok (.ldc 200, 2) := by decide +kernel
theorem dJ8_hugeLength_7cf53_57 : decode cJ8_hugeLength_7cf53 57 = .ok (.ireturn, 1) := by decide +kernel
theorem dJ8_hugeLength_7cf53_58 : decode cJ8_hugeLength_7cf53 58 = .ok (.iload_n 2, 1) := by decide +kernel
theorem dJ8_hugeLength_7cf53_59 : decode cJ8_hugeLength_7cf53 59 = .ok (.ireturn, 1) := by decide +kernel
theorem dJ3_checkIndex_8e157_0 : decode cJ3_checkIndex_8e157 0 = .ok (.iload_n 0, 1) := by decide +kernel
theorem dJ3_checkIndex_8e157_1 : decode cJ3_checkIndex_8e157 1 = .ok (.ifCond .lt 8, 3) := by decide +kernel
theorem dJ3_checkIndex_8e157_4 : decode cJ3_checkIndex_8e157 4 = .ok (.iload_n 0, 1) := by decide +kernel
theorem dJ3_checkIndex_8e157_5 : decode cJ3_checkIndex_8e157 5 = .ok (.iload_n 1, 1) := by decide +kernel
theorem dJ3_checkIndex_8e157_6 : decode cJ3_checkIndex_8e157 6 = .ok (.if_icmp .lt 10, 3) := by decide +kernel
theorem dJ3_checkIndex_8e157_9 : decode cJ3_checkIndex_8e157 9 = .ok (.aload_n 2, 1) := by decide +kernel
theorem dJ3_checkIndex_8e157_10 : decode cJ3_checkIndex_8e157 10 = .ok (.iload_n 0, 1) := by decide +kernel
theorem dJ3_checkIndex_8e157_11 : decode cJ3_checkIndex_8e157 11 = .ok (.iload_n 1, 1) := by decide +kernel
theorem dJ3_checkIndex_8e157_12 : decode cJ3_checkIndex_8e157 12 = .ok (.invokestatic 95, 3) := by decide +kernel
theorem dJ3_checkIndex_8e157_15 : decode cJ3_checkIndex_8e157 15 = .ok (.athrow, 1) := by decide +kernel
theorem dJ3_checkIndex_8e157_16 : decode cJ3_checkIndex_8e157 16 = .ok (.iload_n 0, 1) := by decide +kernel
theorem dJ3_checkIndex_8e157_17 : decode cJ3_checkIndex_8e157 17 = .ok (.ireturn, 1) := by decide +kernel
theorem dJ3_checkFromIndexSize_8c36e_0 : decode cJ3_checkFromIndexSize_8c36e 0 = .ok (.iload_n 2, 1) := by decide +kernel
theorem dJ3_checkFromIndexSize_8c36e_1 : decode cJ3_checkFromIndexSize_8c36e 1 = .ok (.iload_n 0, 1) := by decide +kernel
theorem dJ3_checkFromIndexSize_8c36e_2 : decode cJ3_checkFromIndexSize_8c36e 2 = .ok (.ior, 1) := by decide +kernel
theorem dJ3_checkFromIndexSize_8c36e_3 : decode cJ3_checkFromIndexSize_8c36e 3 = .ok (.iload_n 1, 1) := by decide +kernel
theorem dJ3_checkFromIndexSize_8c36e_4 : decode cJ3_checkFromIndexSize_8c36e 4 = .ok (.ior, 1) := by decide +kernel
theorem dJ3_checkFromIndexSize_8c36e_5 : decode cJ3_checkFromIndexSize_8c36e 5 = .ok (.ifCond .lt 10, 3) := by decide +kernel
theorem dJ3_checkFromIndexSize_8c36e_8 : decode cJ3_checkFromIndexSize_8c36e 8 = .ok (.iload_n 1, 1) := by decide +kernel
theorem dJ3_checkFromIndexSize_8c36e_9 : decode cJ3_checkFromIndexSize_8c36e 9 = .ok (.iload_n 2, 1) := by decide +kernel
theorem dJ3_checkFromIndexSize_8c36e_10 : decode cJ3_checkFromIndexSize_8c36e 10 = .ok (.iload_n 0, 1) := by decide +kernel
theorem dJ3_checkFromIndexSize_8c36e_11 : decode cJ3_checkFromIndexSize_8c36e 11 = .ok (.isub, 1) := by decide +kernel
theorem dJ3_checkFromIndexSize_8c36e_12 : decode cJ3_checkFromIndexSize_8c36e 12 = .ok (.if_icmp .le 11, 3) := by decide +kernel
theorem dJ3_checkFromIndexSize_8c36e_15 : decode cJ3_checkFromIndexSize_8c36e 15 = .ok (.aload_n 3, 1) := by decide +kernel
theorem dJ3_checkFromIndexSize_8c36e_16 : decode cJ3_checkFromIndexSize_8c36e 16 = .ok (.iload_n 0, 1) := by decide +kernel
theorem dJ3_checkFromIndexSize_8c36e_17 : decode cJ3_checkFromIndexSize_8c36e 17 = .ok (.iload_n 1, 1) := by decide +kernel
theorem dJ3_checkFromIndexSize_8c36e_18 : decode cJ3_checkFromIndexSize_8c36e 18 = .ok (.iload_n 2, 1) := by decide +kernel
theorem dJ3_checkFromIndexSize_8c36e_19 : decode cJ3_checkFromIndexSize_8c36e 19 = .ok (.invokestatic 103, 3) := by decide +kernel
theorem dJ3_checkFromIndexSize_8c36e_22 : decode cJ3_checkFromIndexSize_8c36e 22 = .ok (.athrow, 1) := by decide +kernel
theorem dJ3_checkFromIndexSize_8c36e_23 : decode cJ3_checkFromIndexSize_8c36e 23 = .ok (.iload_n 0, 1) := by decide +kernel
theorem dJ3_checkFromIndexSize_8c36e_24 : decode cJ3_checkFromIndexSize_8c36e 24 = .ok (.ireturn, 1) := by decide +kernel
theorem dL_cell_0 : decode cL_cell 0 = .ok (.iload_n 1, 1) := by decide +kernel
theorem dL_cell_1 : decode cL_cell 1 = .ok (.aload_n 0, 1) := by decide +kernel
theorem dL_cell_2 : decode cL_cell 2 = .ok (.arraylength, 1) := by decide +kernel
theorem dL_cell_3 : decode cL_cell 3 = .ok (.if_icmp .ge 9, 3) := by decide +kernel
theorem dL_cell_6 : decode cL_cell 6 = .ok (.aload_n 0, 1) := by decide +kernel
theorem dL_cell_7 : decode cL_cell 7 = .ok (.iload_n 1, 1) := by decide +kernel
theorem dL_cell_8 : decode cL_cell 8 = .ok (.iaload, 1) := by decide +kernel
theorem dL_cell_9 : decode cL_cell 9 = .ok (.goto 11, 3) := by decide +kernel
theorem dL_cell_12 : decode cL_cell 12 = .ok (.ldc 7, 2) := by decide +kernel
theorem dL_cell_14 : decode cL_cell 14 = .ok (.iload_n 1, 1) := by decide +kernel
theorem dL_cell_15 : decode cL_cell 15 = .ok (.imul, 1) := by decide +kernel
theorem dL_cell_16 : decode cL_cell 16 = .ok (.sipush 947, 3) := by decide +kernel
theorem dL_cell_19 : decode cL_cell 19 = .ok (.iadd, 1) := by decide +kernel
theorem dL_cell_20 : decode cL_cell 20 = .ok (.ireturn, 1) := by decide +kernel
theorem dL_between_0 : decode cL_between 0 = .ok (.iload_n 1, 1) := by decide +kernel
theorem dL_between_1 : decode cL_between 1 = .ok (.iload_n 0, 1) := by decide +kernel
theorem dL_between_2 : decode cL_between 2 = .ok (.ldc 8, 2) := by decide +kernel
theorem dL_between_4 : decode cL_between 4 = .ok (.iand, 1) := by decide +kernel
theorem dL_between_5 : decode cL_between 5 = .ok (.iload_n 2, 1) := by decide +kernel
theorem dL_between_6 : decode cL_between 6 = .ok (.iload_n 1, 1) := by decide +kernel
theorem dL_between_7 : decode cL_between 7 = .ok (.isub, 1) := by decide +kernel
theorem dL_between_8 : decode cL_between 8 = .ok (.iconst 1, 1) := by decide +kernel
theorem dL_between_9 : decode cL_between 9 = .ok (.iadd, 1) := by decide +kernel
theorem dL_between_10 : decode cL_between 10 = .ok (.irem, 1) := by decide +kernel
theorem dL_between_11 : decode cL_between 11 = .ok (.iadd, 1) := by decide +kernel
theorem dL_between_12 : decode cL_between 12 = .ok (.ireturn, 1) := by decide +kernel
theorem dL_group_0 : decode cL_group 0 = .ok (.aload_n 1, 1) := by decide +kernel
theorem dL_group_1 : decode cL_group 1 = .ok (.iconst 0, 1) := by decide +kernel
theorem dL_group_2 : decode cL_group 2 = .ok (.invokestatic 9, 3) := by decide +kernel
theorem dL_group_5 : decode cL_group 5 = .ok (.iconst 0, 1) := by decide +kernel
theorem dL_group_6 : decode cL_group 6 = .ok (.iconst 5, 1) := by decide +kernel
theorem dL_group_7 : decode cL_group 7 = .ok (.invokestatic 15, 3) := by decide +kernel
theorem dL_group_10 : decode cL_group 10 = .ok (.istore_n 2, 1) := by decide +kernel
theorem dL_group_11 : decode cL_group 11 = .ok (.iload_n 2, 1) := by decide +kernel
theorem dL_group_12 : decode cL_group 12 = .ok (.iconst 4, 1) := by decide +kernel
theorem dL_group_13 : decode cL_group 13 = .ok (.if_icmp .ge 15, 3) := by decide +kernel
theorem dL_group_16 : decode cL_group 16 = .ok (.aload_n 0, 1) := by decide +kernel
theorem dL_group_17 : decode cL_group 17 = .ok (.iload_n 2, 1) := by decide +kernel
theorem dL_group_18 : decode cL_group 18 = .ok (.invokevirtual 19, 3) := by decide +kernel
theorem dL_group_21 : decode cL_group 21 = .ok (.pop, 1) := by decide +kernel
theorem dL_group_22 : decode cL_group 22 = .ok (.aload_n 0, 1) := by decide +kernel
theorem dL_group_23 : decode cL_group 23 = .ok (.iconst 0, 1) := by decide +kernel
theorem dL_group_24 : decode cL_group 24 = .ok (.invokevirtual 25, 3) := by decide +kernel
theorem dL_group_27 : decode cL_group 27 = .ok (.ireturn, 1) := by decide +kernel
theorem dL_group_28 : decode cL_group 28 = .ok (.aload_n 1, 1) := by decide +kernel
theorem dL_group_29 : decode cL_group 29 = .ok (.iconst 1, 1) := by decide +kernel
theorem dL_group_30 : decode cL_group 30 = .ok (.invokestatic 9, 3) := by decide +kernel
theorem dL_group_33 : decode cL_group 33 = .ok (.iconst 2, 1) := by decide +kernel
theorem dL_group_34 : decode cL_group 34 = .ok (.bipush 6, 2) := by decide +kernel
theorem dL_group_36 : decode cL_group 36 = .ok (.invokestatic 15, 3) := by decide +kernel
theorem dL_group_39 : decode cL_group 39 = .ok (.istore_n 3, 1) := by decide +kernel
theorem dL_group_40 : decode cL_group 40 = .ok (.iconst 0, 1) := by decide +kernel
theorem dL_group_41 : decode cL_group 41 = .ok (.istore 4, 2) := by decide +kernel
theorem dL_group_43 : decode cL_group 43 = .ok (.iconst 1, 1) := by decide +kernel
theorem dL_group_44 : decode cL_group 44 = .ok (.istore 5, 2) := by decide +kernel
theorem dL_group_46 : decode cL_group 46 = .ok (.iconst 0, 1) := by decide +kernel
theorem dL_group_47 : decode cL_group 47 = .ok (.istore 6, 2) := by decide +kernel
theorem dL_group_49 : decode cL_group 49 = .ok (.iload 6, 2) := by decide +kernel
theorem dL_group_51 : decode cL_group 51 = .ok (.iload_n 3, 1) := by decide +kernel
theorem dL_group_52 : decode cL_group 52 = .ok (.if_icmp .ge 51, 3) := by decide +kernel
theorem dL_group_55 : decode cL_group 55 = .ok (.iload 6, 2) := by decide +kernel
theorem dL_group_57 : decode cL_group 57 = .ok (.iconst 1, 1) := by decide +kernel
theorem dL_group_58 : decode cL_group 58 = .ok (.if_icmp .le 27, 3) := by decide +kernel
theorem dL_group_61 : decode cL_group 61 = .ok (.aload_n 1, 1) := by decide +kernel
theorem dL_group_62 : decode cL_group 62 = .ok (.iconst 2, 1) := by decide +kernel
theorem dL_group_63 : decode cL_group 63 = .ok (.invokestatic 9, 3) := by decide +kernel
theorem dL_group_66 : decode cL_group 66 = .ok (.iconst 2, 1) := by decide +kernel
theorem dL_group_67 : decode cL_group 67 = .ok (.iload 6, 2) := by decide +kernel
theorem dL_group_69 : decode cL_group 69 = .ok (.imul, 1) := by decide +kernel
theorem dL_group_70 : decode cL_group 70 = .ok (.ishr, 1) := by decide +kernel
theorem dL_group_71 : decode cL_group 71 = .ok (.iconst 3, 1) := by decide +kernel
theorem dL_group_72 : decode cL_group 72 = .ok (.iand, 1) := by decide +kernel
theorem dL_group_73 : decode cL_group 73 = .ok (.ifCond .ne 12, 3) := by decide +kernel
theorem dL_group_76 : decode cL_group 76 = .ok (.iload 5, 2) := by decide +kernel
theorem dL_group_78 : decode cL_group 78 = .ok (.iconst 3, 1) := by decide +kernel
theorem dL_group_79 : decode cL_group 79 = .ok (.if_icmp .ge 6, 3) := by decide +kernel
theorem dL_group_82 : decode cL_group 82 = .ok (.iinc 5 1, 3) := by decide +kernel
theorem dL_group_85 : decode cL_group 85 = .ok (.iload 4, 2) := by decide +kernel
theorem dL_group_87 : decode cL_group 87 = .ok (.iload 5, 2) := by decide +kernel
theorem dL_group_89 : decode cL_group 89 = .ok (.iconst 2, 1) := by decide +kernel
theorem dL_group_90 : decode cL_group 90 = .ok (.iload 6, 2) := by decide +kernel
theorem dL_group_92 : decode cL_group 92 = .ok (.imul, 1) := by decide +kernel
theorem dL_group_93 : decode cL_group 93 = .ok (.ishl, 1) := by decide +kernel
theorem dL_group_94 : decode cL_group 94 = .ok (.ior, 1) := by decide +kernel
theorem dL_group_95 : decode cL_group 95 = .ok (.istore 4, 2) := by decide +kernel
theorem dL_group_97 : decode cL_group 97 = .ok (.iinc 6 1, 3) := by decide +kernel
theorem dL_group_100 : decode cL_group 100 = .ok (.goto (-51), 3) := by decide +kernel
theorem dL_group_103 : decode cL_group 103 = .ok (.aload_n 0, 1) := by decide +kernel
theorem dL_group_104 : decode cL_group 104 = .ok (.iload_n 3, 1) := by decide +kernel
theorem dL_group_105 : decode cL_group 105 = .ok (.iload 4, 2) := by decide +kernel
theorem dL_group_107 : decode cL_group 107 = .ok (.invokevirtual 29, 3) := by decide +kernel
theorem dL_group_110 : decode cL_group 110 = .ok (.pop, 1) := by decide +kernel
theorem dL_group_111 : decode cL_group 111 = .ok (.iconst 0, 1) := by decide +kernel
theorem dL_group_112 : decode cL_group 112 = .ok (.istore 6, 2) := by decide +kernel
theorem dL_group_114 : decode cL_group 114 = .ok (.iload 6, 2) := by decide +kernel
theorem dL_group_116 : decode cL_group 116 = .ok (.iconst 5, 1) := by decide +kernel
theorem dL_group_117 : decode cL_group 117 = .ok (.if_icmp .ge 97, 3) := by decide +kernel
theorem dL_group_120 : decode cL_group 120 = .ok (.aload_n 1, 1) := by decide +kernel
theorem dL_group_121 : decode cL_group 121 = .ok (.iconst 3, 1) := by decide +kernel
theorem dL_group_122 : decode cL_group 122 = .ok (.iload 6, 2) := by decide +kernel
theorem dL_group_124 : decode cL_group 124 = .ok (.iadd, 1) := by decide +kernel
theorem dL_group_125 : decode cL_group 125 = .ok (.invokestatic 9, 3) := by decide +kernel
theorem dL_group_128 : decode cL_group 128 = .ok (.istore 7, 2) := by decide +kernel
theorem dL_group_130 : decode cL_group 130 = .ok (.iload 7, 2) := by decide +kernel
theorem dL_group_132 : decode cL_group 132 = .ok (.iconst 1, 1) := by decide +kernel
theorem dL_group_133 : decode cL_group 133 = .ok (.iload_n 3, 1) := by decide +kernel
theorem dL_group_134 : decode cL_group 134 = .ok (.invokestatic 15, 3) := by decide +kernel
theorem dL_group_137 : decode cL_group 137 = .ok (.istore 8, 2) := by decide +kernel
theorem dL_group_139 : decode cL_group 139 = .ok (.iload 7, 2) := by decide +kernel
theorem dL_group_141 : decode cL_group 141 = .ok (.iconst 4, 1) := by decide +kernel
theorem dL_group_142 : decode cL_group 142 = .ok (.ishr, 1) := by decide +kernel
theorem dL_group_143 : decode cL_group 143 = .ok (.iconst 1, 1) := by decide +kernel
theorem dL_group_144 : decode cL_group 144 = .ok (.iload_n 3, 1) := by decide +kernel
theorem dL_group_145 : decode cL_group 145 = .ok (.invokestatic 15, 3) := by decide +kernel
theorem dL_group_148 : decode cL_group 148 = .ok (.istore 9, 2) := by decide +kernel
theorem dL_group_150 : decode cL_group 150 = .ok (.iload 7, 2) := by decide +kernel
theorem dL_group_152 : decode cL_group 152 = .ok (.bipush 8, 2) := by decide +kernel
theorem dL_group_154 : decode cL_group 154 = .ok (.ishr, 1) := by decide +kernel
theorem dL_group_155 : decode cL_group 155 = .ok (.iconst 1, 1) := by decide +kernel
theorem dL_group_156 : decode cL_group 156 = .ok (.iload_n 3, 1) := by decide +kernel
theorem dL_group_157 : decode cL_group 157 = .ok (.invokestatic 15, 3) := by decide +kernel
theorem dL_group_160 : decode cL_group 160 = .ok (.istore 10, 2) := by decide +kernel
theorem dL_group_162 : decode cL_group 162 = .ok (.aload_n 0, 1) := by decide +kernel
theorem dL_group_163 : decode cL_group 163 = .ok (.iload 9, 2) := by decide +kernel
theorem dL_group_165 : decode cL_group 165 = .ok (.iload 8, 2) := by decide +kernel
theorem dL_group_167 : decode cL_group 167 = .ok (.iload 10, 2) := by decide +kernel
theorem dL_group_169 : decode cL_group 169 = .ok (.iload 7, 2) := by decide +kernel
theorem dL_group_171 : decode cL_group 171 = .ok (.bipush 12, 2) := by decide +kernel
theorem dL_group_173 : decode cL_group 173 = .ok (.ishr, 1) := by decide +kernel
theorem dL_group_174 : decode cL_group 174 = .ok (.iconst 0, 1) := by decide +kernel
theorem dL_group_175 : decode cL_group 175 = .ok (.iconst 3, 1) := by decide +kernel
theorem dL_group_176 : decode cL_group 176 = .ok (.invokestatic 15, 3) := by decide +kernel
theorem dL_group_179 : decode cL_group 179 = .ok (.invokevirtual 33, 3) := by decide +kernel
theorem dL_group_182 : decode cL_group 182 = .ok (.ifCond .eq 26, 3) := by decide +kernel
theorem dL_group_185 : decode cL_group 185 = .ok (.aload_n 0, 1) := by decide +kernel
theorem dL_group_186 : decode cL_group 186 = .ok (.invokevirtual 37, 3) := by decide +kernel
theorem dL_group_189 : decode cL_group 189 = .ok (.ifCond .ne 19, 3) := by decide +kernel
theorem dL_group_192 : decode cL_group 192 = .ok (.aload_n 0, 1) := by decide +kernel
theorem dL_group_193 : decode cL_group 193 = .ok (.iload 9, 2) := by decide +kernel
theorem dL_group_195 : decode cL_group 195 = .ok (.iload 8, 2) := by decide +kernel
theorem dL_group_197 : decode cL_group 197 = .ok (.iload 10, 2) := by decide +kernel
theorem dL_group_199 : decode cL_group 199 = .ok (.iconst 0, 1) := by decide +kernel
theorem dL_group_200 : decode cL_group 200 = .ok (.invokevirtual 33, 3) := by decide +kernel
theorem dL_group_203 : decode cL_group 203 = .ok (.ifCond .ne 5, 3) := by decide +kernel
theorem dL_group_206 : decode cL_group 206 = .ok (.iconst (-1), 1) := by decide +kernel
theorem dL_group_207 : decode cL_group 207 = .ok (.ireturn, 1) := by decide +kernel
theorem dL_group_208 : decode cL_group 208 = .ok (.iinc 6 1, 3) := by decide +kernel
theorem dL_group_211 : decode cL_group 211 = .ok (.goto (-97), 3) := by decide +kernel
theorem dL_group_214 : decode cL_group 214 = .ok (.iload_n 3, 1) := by decide +kernel
theorem dL_group_215 : decode cL_group 215 = .ok (.ireturn, 1) := by decide +kernel
theorem dL_sets_0 : decode cL_sets 0 = .ok (.aload_n 1, 1) := by decide +kernel
theorem dL_sets_1 : decode cL_sets 1 = .ok (.iconst 0, 1) := by decide +kernel
theorem dL_sets_2 : decode cL_sets 2 = .ok (.invokestatic 9, 3) := by decide +kernel
theorem dL_sets_5 : decode cL_sets 5 = .ok (.iconst 0, 1) := by decide +kernel
theorem dL_sets_6 : decode cL_sets 6 = .ok (.iconst 5, 1) := by decide +kernel
theorem dL_sets_7 : decode cL_sets 7 = .ok (.invokestatic 15, 3) := by decide +kernel
theorem dL_sets_10 : decode cL_sets 10 = .ok (.iconst 4, 1) := by decide +kernel
theorem dL_sets_11 : decode cL_sets 11 = .ok (.if_icmp .ge 8, 3) := by decide +kernel
theorem dL_sets_14 : decode cL_sets 14 = .ok (.iload 5, 2) := by decide +kernel
theorem dL_sets_16 : decode cL_sets 16 = .ok (.goto 4, 3) := by decide +kernel
theorem dL_sets_19 : decode cL_sets 19 = .ok (.iconst 2, 1) := by decide +kernel
theorem dL_sets_20 : decode cL_sets 20 = .ok (.istore 6, 2) := by decide +kernel
theorem dL_sets_22 : decode cL_sets 22 = .ok (.iconst 1, 1) := by decide +kernel
theorem dL_sets_23 : decode cL_sets 23 = .ok (.istore 7, 2) := by decide +kernel
theorem dL_sets_25 : decode cL_sets 25 = .ok (.iload 7, 2) := by decide +kernel
theorem dL_sets_27 : decode cL_sets 27 = .ok (.iload 4, 2) := by decide +kernel
theorem dL_sets_29 : decode cL_sets 29 = .ok (.if_icmp .gt 33, 3) := by decide +kernel
theorem dL_sets_32 : decode cL_sets 32 = .ok (.aload_n 0, 1) := by decide +kernel
theorem dL_sets_33 : decode cL_sets 33 = .ok (.iload_n 3, 1) := by decide +kernel
theorem dL_sets_34 : decode cL_sets 34 = .ok (.iload 7, 2) := by decide +kernel
theorem dL_sets_36 : decode cL_sets 36 = .ok (.aload_n 1, 1) := by decide +kernel
theorem dL_sets_37 : decode cL_sets 37 = .ok (.iload_n 2, 1) := by decide +kernel
theorem dL_sets_38 : decode cL_sets 38 = .ok (.iload 7, 2) := by decide +kernel
theorem dL_sets_40 : decode cL_sets 40 = .ok (.iadd, 1) := by decide +kernel
theorem dL_sets_41 : decode cL_sets 41 = .ok (.invokestatic 9, 3) := by decide +kernel
theorem dL_sets_44 : decode cL_sets 44 = .ok (.iload 6, 2) := by decide +kernel
theorem dL_sets_46 : decode cL_sets 46 = .ok (.ineg, 1) := by decide +kernel
theorem dL_sets_47 : decode cL_sets 47 = .ok (.iload 6, 2) := by decide +kernel
theorem dL_sets_49 : decode cL_sets 49 = .ok (.invokestatic 15, 3) := by decide +kernel
theorem dL_sets_52 : decode cL_sets 52 = .ok (.invokevirtual 41, 3) := by decide +kernel
theorem dL_sets_55 : decode cL_sets 55 = .ok (.pop, 1) := by decide +kernel
theorem dL_sets_56 : decode cL_sets 56 = .ok (.iinc 7 1, 3) := by decide +kernel
theorem dL_sets_59 : decode cL_sets 59 = .ok (.goto (-34), 3) := by decide +kernel
theorem dL_sets_62 : decode cL_sets 62 = .ok (.return_, 1) := by decide +kernel
theorem dL_isOne_0 : decode cL_isOne 0 = .ok (.iconst 1, 1) := by decide +kernel
theorem dL_isOne_1 : decode cL_isOne 1 = .ok (.istore_n 3, 1) := by decide +kernel
theorem dL_isOne_2 : decode cL_isOne 2 = .ok (.iload_n 3, 1) := by decide +kernel
theorem dL_isOne_3 : decode cL_isOne 3 = .ok (.iload_n 2, 1) := by decide +kernel
theorem dL_isOne_4 : decode cL_isOne 4 = .ok (.if_icmp .gt 20, 3) := by decide +kernel
theorem dL_isOne_7 : decode cL_isOne 7 = .ok (.aload_n 0, 1) := by decide +kernel
theorem dL_isOne_8 : decode cL_isOne 8 = .ok (.iload_n 1, 1) := by decide +kernel
theorem dL_isOne_9 : decode cL_isOne 9 = .ok (.iload_n 3, 1) := by decide +kernel
theorem dL_isOne_10 : decode cL_isOne 10 = .ok (.invokevirtual 45, 3) := by decide +kernel
theorem dL_isOne_13 : decode cL_isOne 13 = .ok (.ifCond .eq 5, 3) := by decide +kernel
theorem dL_isOne_16 : decode cL_isOne 16 = .ok (.iconst 0, 1) := by decide +kernel
theorem dL_isOne_17 : decode cL_isOne 17 = .ok (.ireturn, 1) := by decide +kernel
theorem dL_isOne_18 : decode cL_isOne 18 = .ok (.iinc 3 1, 3) := by decide +kernel
theorem dL_isOne_21 : decode cL_isOne 21 = .ok (.goto (-19), 3) := by decide +kernel
theorem dL_isOne_24 : decode cL_isOne 24 = .ok (.iconst 1, 1) := by decide +kernel
theorem dL_isOne_25 : decode cL_isOne 25 = .ok (.ireturn, 1) := by decide +kernel
theorem dL_areSame_0 : decode cL_areSame 0 = .ok (.iconst 1, 1) := by decide +kernel
theorem dL_areSame_1 : decode cL_areSame 1 = .ok (.istore 4, 2) := by decide +kernel
theorem dL_areSame_3 : decode cL_areSame 3 = .ok (.iload 4, 2) := by decide +kernel
theorem dL_areSame_5 : decode cL_areSame 5 = .ok (.iload_n 3, 1) := by decide +kernel
theorem dL_areSame_6 : decode cL_areSame 6 = .ok (.if_icmp .gt 28, 3) := by decide +kernel
theorem dL_areSame_9 : decode cL_areSame 9 = .ok (.aload_n 0, 1) := by decide +kernel
theorem dL_areSame_10 : decode cL_areSame 10 = .ok (.iload_n 1, 1) := by decide +kernel
theorem dL_areSame_11 : decode cL_areSame 11 = .ok (.iload 4, 2) := by decide +kernel
theorem dL_areSame_13 : decode cL_areSame 13 = .ok (.invokevirtual 45, 3) := by decide +kernel
theorem dL_areSame_16 : decode cL_areSame 16 = .ok (.aload_n 0, 1) := by decide +kernel
theorem dL_areSame_17 : decode cL_areSame 17 = .ok (.iload_n 2, 1) := by decide +kernel
theorem dL_areSame_18 : decode cL_areSame 18 = .ok (.iload 4, 2) := by decide +kernel
theorem dL_areSame_20 : decode cL_areSame 20 = .ok (.invokevirtual 45, 3) := by decide +kernel
theorem dL_areSame_23 : decode cL_areSame 23 = .ok (.if_icmp .eq 5, 3) := by decide +kernel
theorem dL_areSame_26 : decode cL_areSame 26 = .ok (.iconst 0, 1) := by decide +kernel
theorem dL_areSame_27 : decode cL_areSame 27 = .ok (.ireturn, 1) := by decide +kernel
theorem dL_areSame_28 : decode cL_areSame 28 = .ok (.iinc 4 1, 3) := by decide +kernel
theorem dL_areSame_31 : decode cL_areSame 31 = .ok (.goto (-28), 3) := by decide +kernel
theorem dL_areSame_34 : decode cL_areSame 34 = .ok (.iconst 1, 1) := by decide +kernel
theorem dL_areSame_35 : decode cL_areSame 35 = .ok (.ireturn, 1) := by decide +kernel
theorem dL_types_0 : decode cL_types 0 = .ok (.iconst 0, 1) := by decide +kernel
theorem dL_types_1 : decode cL_types 1 = .ok (.istore_n 2, 1) := by decide +kernel
theorem dL_types_2 : decode cL_types 2 = .ok (.iload_n 2, 1) := by decide +kernel
theorem dL_types_3 : decode cL_types 3 = .ok (.aload_n 1, 1) := by decide +kernel
theorem dL_types_4 : decode cL_types 4 = .ok (.invokevirtual 49, 3) := by decide +kernel
theorem dL_types_7 : decode cL_types 7 = .ok (.if_icmp .ge 93, 3) := by decide +kernel
theorem dL_types_10 : decode cL_types 10 = .ok (.iconst 5, 1) := by decide +kernel
theorem dL_types_11 : decode cL_types 11 = .ok (.newarray .int, 2) := by decide +kernel
theorem dL_types_13 : decode cL_types 13 = .ok (.astore_n 3, 1) := by decide +kernel
theorem dL_types_14 : decode cL_types 14 = .ok (.iconst 0, 1) := by decide +kernel
theorem dL_types_15 : decode cL_types 15 = .ok (.istore 4, 2) := by decide +kernel
theorem dL_types_17 : decode cL_types 17 = .ok (.iload 4, 2) := by decide +kernel
theorem dL_types_19 : decode cL_types 19 = .ok (.bipush 20, 2) := by decide +kernel
theorem dL_types_21 : decode cL_types 21 = .ok (.if_icmp .ge 53, 3) := by decide +kernel
theorem dL_types_24 : decode cL_types 24 = .ok (.aload_n 3, 1) := by decide +kernel
theorem dL_types_25 : decode cL_types 25 = .ok (.iload 4, 2) := by decide +kernel
theorem dL_types_27 : decode cL_types 27 = .ok (.iconst 4, 1) := by decide +kernel
theorem dL_types_28 : decode cL_types 28 = .ok (.idiv, 1) := by decide +kernel
theorem dL_types_29 : decode cL_types 29 = .ok (.dup2, 1) := by decide +kernel
theorem dL_types_30 : decode cL_types 30 = .ok (.iaload, 1) := by decide +kernel
theorem dL_types_31 : decode cL_types 31 = .ok (.iload_n 2, 1) := by decide +kernel
theorem dL_types_32 : decode cL_types 32 = .ok (.iload 4, 2) := by decide +kernel
theorem dL_types_34 : decode cL_types 34 = .ok (.iadd, 1) := by decide +kernel
theorem dL_types_35 : decode cL_types 35 = .ok (.aload_n 1, 1) := by decide +kernel
theorem dL_types_36 : decode cL_types 36 = .ok (.invokevirtual 49, 3) := by decide +kernel
theorem dL_types_39 : decode cL_types 39 = .ok (.if_icmp .ge 14, 3) := by decide +kernel
theorem dL_types_42 : decode cL_types 42 = .ok (.aload_n 1, 1) := by decide +kernel
theorem dL_types_43 : decode cL_types 43 = .ok (.iload_n 2, 1) := by decide +kernel
theorem dL_types_44 : decode cL_types 44 = .ok (.iload 4, 2) := by decide +kernel
theorem dL_types_46 : decode cL_types 46 = .ok (.iadd, 1) := by decide +kernel
theorem dL_types_47 : decode cL_types 47 = .ok (.invokevirtual 54, 3) := by decide +kernel
theorem dL_types_50 : decode cL_types 50 = .ok (.goto 5, 3) := by decide +kernel
theorem dL_types_53 : decode cL_types 53 = .ok (.bipush 32, 2) := by decide +kernel
theorem dL_types_55 : decode cL_types 55 = .ok (.bipush 24, 2) := by decide +kernel
theorem dL_types_57 : decode cL_types 57 = .ok (.bipush 8, 2) := by decide +kernel
theorem dL_types_59 : decode cL_types 59 = .ok (.iload 4, 2) := by decide +kernel
theorem dL_types_61 : decode cL_types 61 = .ok (.iconst 4, 1) := by decide +kernel
theorem dL_types_62 : decode cL_types 62 = .ok (.irem, 1) := by decide +kernel
theorem dL_types_63 : decode cL_types 63 = .ok (.imul, 1) := by decide +kernel
theorem dL_types_64 : decode cL_types 64 = .ok (.isub, 1) := by decide +kernel
theorem dL_types_65 : decode cL_types 65 = .ok (.ishl, 1) := by decide +kernel
theorem dL_types_66 : decode cL_types 66 = .ok (.ior, 1) := by decide +kernel
theorem dL_types_67 : decode cL_types 67 = .ok (.iastore, 1) := by decide +kernel
theorem dL_types_68 : decode cL_types 68 = .ok (.iinc 4 1, 3) := by decide +kernel
theorem dL_types_71 : decode cL_types 71 = .ok (.goto (-54), 3) := by decide +kernel
theorem dL_types_74 : decode cL_types 74 = .ok (.aload_n 0, 1) := by decide +kernel
theorem dL_types_75 : decode cL_types 75 = .ok (.aload_n 3, 1) := by decide +kernel
theorem dL_types_76 : decode cL_types 76 = .ok (.iconst 0, 1) := by decide +kernel
theorem dL_types_77 : decode cL_types 77 = .ok (.iaload, 1) := by decide +kernel
theorem dL_types_78 : decode cL_types 78 = .ok (.aload_n 3, 1) := by decide +kernel
theorem dL_types_79 : decode cL_types 79 = .ok (.iconst 1, 1) := by decide +kernel
theorem dL_types_80 : decode cL_types 80 = .ok (.iaload, 1) := by decide +kernel
theorem dL_types_81 : decode cL_types 81 = .ok (.aload_n 3, 1) := by decide +kernel
theorem dL_types_82 : decode cL_types 82 = .ok (.iconst 2, 1) := by decide +kernel
theorem dL_types_83 : decode cL_types 83 = .ok (.iaload, 1) := by decide +kernel
theorem dL_types_84 : decode cL_types 84 = .ok (.aload_n 3, 1) := by decide +kernel
theorem dL_types_85 : decode cL_types 85 = .ok (.iconst 3, 1) := by decide +kernel
theorem dL_types_86 : decode cL_types 86 = .ok (.iaload, 1) := by decide +kernel
theorem dL_types_87 : decode cL_types 87 = .ok (.aload_n 3, 1) := by decide +kernel
theorem dL_types_88 : decode cL_types 88 = .ok (.iconst 4, 1) := by decide +kernel
theorem dL_types_89 : decode cL_types 89 = .ok (.iaload, 1) := by decide +kernel
theorem dL_types_90 : decode cL_types 90 = .ok (.invokevirtual 58, 3) := by decide +kernel
theorem dL_types_93 : decode cL_types 93 = .ok (.pop, 1) := by decide +kernel
theorem dL_types_94 : decode cL_types 94 = .ok (.iinc 2 20, 3) := by decide +kernel
theorem dL_types_97 : decode cL_types 97 = .ok (.goto (-95), 3) := by decide +kernel
theorem dL_types_100 : decode cL_types 100 = .ok (.aload_n 0, 1) := by decide +kernel
theorem dL_types_101 : decode cL_types 101 = .ok (.aload_n 1, 1) := by decide +kernel
theorem dL_types_102 : decode cL_types 102 = .ok (.invokevirtual 49, 3) := by decide +kernel
theorem dL_types_105 : decode cL_types 105 = .ok (.invokevirtual 62, 3) := by decide +kernel
theorem dL_types_108 : decode cL_types 108 = .ok (.pop, 1) := by decide +kernel
theorem dL_types_109 : decode cL_types 109 = .ok (.return_, 1) := by decide +kernel
theorem dL_makes_0 : decode cL_makes 0 = .ok (.aload_n 0, 1) := by decide +kernel
theorem dL_makes_1 : decode cL_makes 1 = .ok (.bipush 8, 2) := by decide +kernel
theorem dL_makes_3 : decode cL_makes 3 = .ok (.invokevirtual 25, 3) := by decide +kernel
theorem dL_makes_6 : decode cL_makes 6 = .ok (.istore 4, 2) := by decide +kernel
theorem dL_makes_8 : decode cL_makes 8 = .ok (.aload_n 0, 1) := by decide +kernel
theorem dL_makes_9 : decode cL_makes 9 = .ok (.iload_n 1, 1) := by decide +kernel
theorem dL_makes_10 : decode cL_makes 10 = .ok (.iload_n 2, 1) := by decide +kernel
theorem dL_makes_11 : decode cL_makes 11 = .ok (.iload_n 3, 1) := by decide +kernel
theorem dL_makes_12 : decode cL_makes 12 = .ok (.invokevirtual 65, 3) := by decide +kernel
theorem dL_makes_15 : decode cL_makes 15 = .ok (.ifCond .eq 7, 3) := by decide +kernel
theorem dL_makes_18 : decode cL_makes 18 = .ok (.iconst 1, 1) := by decide +kernel
theorem dL_makes_19 : decode cL_makes 19 = .ok (.goto 21, 3) := by decide +kernel
theorem dL_makes_22 : decode cL_makes 22 = .ok (.aload_n 0, 1) := by decide +kernel
theorem dL_makes_23 : decode cL_makes 23 = .ok (.bipush 8, 2) := by decide +kernel
theorem dL_makes_25 : decode cL_makes 25 = .ok (.invokevirtual 25, 3) := by decide +kernel
theorem dL_makes_28 : decode cL_makes 28 = .ok (.iload 4, 2) := by decide +kernel
theorem dL_makes_30 : decode cL_makes 30 = .ok (.iconst 1, 1) := by decide +kernel
theorem dL_makes_31 : decode cL_makes 31 = .ok (.iadd, 1) := by decide +kernel
theorem dL_makes_32 : decode cL_makes 32 = .ok (.if_icmp .ne 7, 3) := by decide +kernel
theorem dL_makes_35 : decode cL_makes 35 = .ok (.iconst 0, 1) := by decide +kernel
theorem dL_makes_36 : decode cL_makes 36 = .ok (.goto 4, 3) := by decide +kernel
theorem dL_makes_39 : decode cL_makes 39 = .ok (.iconst (-1), 1) := by decide +kernel
theorem dL_makes_40 : decode cL_makes 40 = .ok (.ireturn, 1) := by decide +kernel
theorem dL_inverts_0 : decode cL_inverts 0 = .ok (.aload_n 0, 1) := by decide +kernel
theorem dL_inverts_1 : decode cL_inverts 1 = .ok (.bipush 8, 2) := by decide +kernel
theorem dL_inverts_3 : decode cL_inverts 3 = .ok (.invokevirtual 25, 3) := by decide +kernel
theorem dL_inverts_6 : decode cL_inverts 6 = .ok (.istore_n 3, 1) := by decide +kernel
theorem dL_inverts_7 : decode cL_inverts 7 = .ok (.aload_n 0, 1) := by decide +kernel
theorem dL_inverts_8 : decode cL_inverts 8 = .ok (.iload_n 1, 1) := by decide +kernel
theorem dL_inverts_9 : decode cL_inverts 9 = .ok (.iload_n 2, 1) := by decide +kernel
theorem dL_inverts_10 : decode cL_inverts 10 = .ok (.invokevirtual 68, 3) := by decide +kernel
theorem dL_inverts_13 : decode cL_inverts 13 = .ok (.ifCond .eq 7, 3) := by decide +kernel
theorem dL_inverts_16 : decode cL_inverts 16 = .ok (.iconst 1, 1) := by decide +kernel
theorem dL_inverts_17 : decode cL_inverts 17 = .ok (.goto 20, 3) := by decide +kernel
theorem dL_inverts_20 : decode cL_inverts 20 = .ok (.aload_n 0, 1) := by decide +kernel
theorem dL_inverts_21 : decode cL_inverts 21 = .ok (.bipush 8, 2) := by decide +kernel
theorem dL_inverts_23 : decode cL_inverts 23 = .ok (.invokevirtual 25, 3) := by decide +kernel
theorem dL_inverts_26 : decode cL_inverts 26 = .ok (.iload_n 3, 1) := by decide +kernel
theorem dL_inverts_27 : decode cL_inverts 27 = .ok (.iconst 1, 1) := by decide +kernel
theorem dL_inverts_28 : decode cL_inverts 28 = .ok (.iadd, 1) := by decide +kernel
theorem dL_inverts_29 : decode cL_inverts 29 = .ok (.if_icmp .ne 7, 3) := by decide +kernel
theorem dL_inverts_32 : decode cL_inverts 32 = .ok (.iconst 0, 1) := by decide +kernel
theorem dL_inverts_33 : decode cL_inverts 33 = .ok (.goto 4, 3) := by decide +kernel
theorem dL_inverts_36 : decode cL_inverts 36 = .ok (.iconst (-1), 1) := by decide +kernel
theorem dL_inverts_37 : decode cL_inverts 37 = .ok (.ireturn, 1) := by decide +kernel
theorem dL_law_0 : decode cL_law 0 = .ok (.new 20, 3) := by decide +kernel
theorem dL_law_3 : decode cL_law 3 = .ok (.dup, 1) := by decide +kernel
theorem dL_law_4 : decode cL_law 4 = .ok (.invokespecial 71, 3) := by decide +kernel
theorem dL_law_7 : decode cL_law 7 = .ok (.astore_n 1, 1) := by decide +kernel
theorem dL_law_8 : decode cL_law 8 = .ok (.aload_n 1, 1) := by decide +kernel
theorem dL_law_9 : decode cL_law 9 = .ok (.aload_n 0, 1) := by decide +kernel
theorem dL_law_10 : decode cL_law 10 = .ok (.invokestatic 72, 3) := by decide +kernel
theorem dL_law_13 : decode cL_law 13 = .ok (.istore_n 2, 1) := by decide +kernel
theorem dL_law_14 : decode cL_law 14 = .ok (.iload_n 2, 1) := by decide +kernel
theorem dL_law_15 : decode cL_law 15 = .ok (.ifCond .ge 5, 3) := by decide +kernel
theorem dL_law_18 : decode cL_law 18 = .ok (.iconst 0, 1) := by decide +kernel
theorem dL_law_19 : decode cL_law 19 = .ok (.ireturn, 1) := by decide +kernel
theorem dL_law_20 : decode cL_law 20 = .ok (.aload_n 1, 1) := by decide +kernel
theorem dL_law_21 : decode cL_law 21 = .ok (.invokevirtual 37, 3) := by decide +kernel
theorem dL_law_24 : decode cL_law 24 = .ok (.ifCond .ne 38, 3) := by decide +kernel
theorem dL_law_27 : decode cL_law 27 = .ok (.aload_n 1, 1) := by decide +kernel
theorem dL_law_28 : decode cL_law 28 = .ok (.iconst 0, 1) := by decide +kernel
theorem dL_law_29 : decode cL_law 29 = .ok (.iconst 1, 1) := by decide +kernel
theorem dL_law_30 : decode cL_law 30 = .ok (.iconst 1, 1) := by decide +kernel
theorem dL_law_31 : decode cL_law 31 = .ok (.invokevirtual 41, 3) := by decide +kernel
theorem dL_law_34 : decode cL_law 34 = .ok (.ifCond .ne 26, 3) := by decide +kernel
theorem dL_law_37 : decode cL_law 37 = .ok (.aload_n 1, 1) := by decide +kernel
theorem dL_law_38 : decode cL_law 38 = .ok (.iconst 0, 1) := by decide +kernel
theorem dL_law_39 : decode cL_law 39 = .ok (.iconst 0, 1) := by decide +kernel
theorem dL_law_40 : decode cL_law 40 = .ok (.iconst 0, 1) := by decide +kernel
theorem dL_law_41 : decode cL_law 41 = .ok (.invokevirtual 65, 3) := by decide +kernel
theorem dL_law_44 : decode cL_law 44 = .ok (.ifCond .ne 16, 3) := by decide +kernel
theorem dL_law_47 : decode cL_law 47 = .ok (.aload_n 1, 1) := by decide +kernel
theorem dL_law_48 : decode cL_law 48 = .ok (.iconst 1, 1) := by decide +kernel
theorem dL_law_49 : decode cL_law 49 = .ok (.invokevirtual 75, 3) := by decide +kernel
theorem dL_law_52 : decode cL_law 52 = .ok (.iconst (-1), 1) := by decide +kernel
theorem dL_law_53 : decode cL_law 53 = .ok (.if_icmp .ne 7, 3) := by decide +kernel
theorem dL_law_56 : decode cL_law 56 = .ok (.iconst 1, 1) := by decide +kernel
theorem dL_law_57 : decode cL_law 57 = .ok (.goto 4, 3) := by decide +kernel
theorem dL_law_60 : decode cL_law 60 = .ok (.iconst 0, 1) := by decide +kernel
theorem dL_law_61 : decode cL_law 61 = .ok (.ireturn, 1) := by decide +kernel
theorem dL_law_62 : decode cL_law 62 = .ok (.iconst 0, 1) := by decide +kernel
theorem dL_law_63 : decode cL_law 63 = .ok (.istore_n 3, 1) := by decide +kernel
theorem dL_law_64 : decode cL_law 64 = .ok (.iload_n 3, 1) := by decide +kernel
theorem dL_law_65 : decode cL_law 65 = .ok (.bipush 6, 2) := by decide +kernel
theorem dL_law_67 : decode cL_law 67 = .ok (.if_icmp .ge 243, 3) := by decide +kernel
theorem dL_law_70 : decode cL_law 70 = .ok (.new 78, 3) := by decide +kernel
theorem dL_law_73 : decode cL_law 73 = .ok (.dup, 1) := by decide +kernel
theorem dL_law_74 : decode cL_law 74 = .ok (.invokespecial 80, 3) := by decide +kernel
theorem dL_law_77 : decode cL_law 77 = .ok (.astore 4, 2) := by decide +kernel
theorem dL_law_79 : decode cL_law 79 = .ok (.iconst 0, 1) := by decide +kernel
theorem dL_law_80 : decode cL_law 80 = .ok (.istore 5, 2) := by decide +kernel
theorem dL_law_82 : decode cL_law 82 = .ok (.iload 5, 2) := by decide +kernel
theorem dL_law_84 : decode cL_law 84 = .ok (.iconst 2, 1) := by decide +kernel
theorem dL_law_85 : decode cL_law 85 = .ok (.if_icmp .ge 101, 3) := by decide +kernel
theorem dL_law_88 : decode cL_law 88 = .ok (.iconst 1, 1) := by decide +kernel
theorem dL_law_89 : decode cL_law 89 = .ok (.istore 6, 2) := by decide +kernel
theorem dL_law_91 : decode cL_law 91 = .ok (.iload 6, 2) := by decide +kernel
theorem dL_law_93 : decode cL_law 93 = .ok (.iload_n 2, 1) := by decide +kernel
theorem dL_law_94 : decode cL_law 94 = .ok (.if_icmp .gt 86, 3) := by decide +kernel
theorem dL_law_97 : decode cL_law 97 = .ok (.aload_n 0, 1) := by decide +kernel
theorem dL_law_98 : decode cL_law 98 = .ok (.bipush 10, 2) := by decide +kernel
theorem dL_law_100 : decode cL_law 100 = .ok (.bipush 12, 2) := by decide +kernel
theorem dL_law_102 : decode cL_law 102 = .ok (.iload_n 3, 1) := by decide +kernel
theorem dL_law_103 : decode cL_law 103 = .ok (.imul, 1) := by decide +kernel
theorem dL_law_104 : decode cL_law 104 = .ok (.iadd, 1) := by decide +kernel
theorem dL_law_105 : decode cL_law 105 = .ok (.bipush 6, 2) := by decide +kernel
theorem dL_law_107 : decode cL_law 107 = .ok (.iload 5, 2) := by decide +kernel
theorem dL_law_109 : decode cL_law 109 = .ok (.imul, 1) := by decide +kernel
theorem dL_law_110 : decode cL_law 110 = .ok (.iadd, 1) := by decide +kernel
theorem dL_law_111 : decode cL_law 111 = .ok (.iload 6, 2) := by decide +kernel
theorem dL_law_113 : decode cL_law 113 = .ok (.iadd, 1) := by decide +kernel
theorem dL_law_114 : decode cL_law 114 = .ok (.invokestatic 9, 3) := by decide +kernel
theorem dL_law_117 : decode cL_law 117 = .ok (.iconst 0, 1) := by decide +kernel
theorem dL_law_118 : decode cL_law 118 = .ok (.iload_n 2, 1) := by decide +kernel
theorem dL_law_119 : decode cL_law 119 = .ok (.iconst 4, 1) := by decide +kernel
theorem dL_law_120 : decode cL_law 120 = .ok (.if_icmp .le 7, 3) := by decide +kernel
theorem dL_law_123 : decode cL_law 123 = .ok (.iconst 1, 1) := by decide +kernel
theorem dL_law_124 : decode cL_law 124 = .ok (.goto 4, 3) := by decide +kernel
theorem dL_law_127 : decode cL_law 127 = .ok (.iconst 2, 1) := by decide +kernel
theorem dL_law_128 : decode cL_law 128 = .ok (.invokestatic 15, 3) := by decide +kernel
theorem dL_law_131 : decode cL_law 131 = .ok (.istore 7, 2) := by decide +kernel
theorem dL_law_133 : decode cL_law 133 = .ok (.aload_n 1, 1) := by decide +kernel
theorem dL_law_134 : decode cL_law 134 = .ok (.iload 5, 2) := by decide +kernel
theorem dL_law_136 : decode cL_law 136 = .ok (.iload 6, 2) := by decide +kernel
theorem dL_law_138 : decode cL_law 138 = .ok (.iload 7, 2) := by decide +kernel
theorem dL_law_140 : decode cL_law 140 = .ok (.invokevirtual 41, 3) := by decide +kernel
theorem dL_law_143 : decode cL_law 143 = .ok (.pop, 1) := by decide +kernel
theorem dL_law_144 : decode cL_law 144 = .ok (.iconst 0, 1) := by decide +kernel
theorem dL_law_145 : decode cL_law 145 = .ok (.istore 8, 2) := by decide +kernel
theorem dL_law_147 : decode cL_law 147 = .ok (.iload 8, 2) := by decide +kernel
theorem dL_law_149 : decode cL_law 149 = .ok (.iload 7, 2) := by decide +kernel
theorem dL_law_151 : decode cL_law 151 = .ok (.if_icmp .ge 23, 3) := by decide +kernel
theorem dL_law_154 : decode cL_law 154 = .ok (.aload 4, 2) := by decide +kernel
theorem dL_law_156 : decode cL_law 156 = .ok (.bipush 97, 2) := by decide +kernel
theorem dL_law_158 : decode cL_law 158 = .ok (.iload 6, 2) := by decide +kernel
theorem dL_law_160 : decode cL_law 160 = .ok (.iadd, 1) := by decide +kernel
theorem dL_law_161 : decode cL_law 161 = .ok (.iconst 1, 1) := by decide +kernel
theorem dL_law_162 : decode cL_law 162 = .ok (.isub, 1) := by decide +kernel
theorem dL_law_163 : decode cL_law 163 = .ok (.i2c, 1) := by decide +kernel
theorem dL_law_164 : decode cL_law 164 = .ok (.invokevirtual 81, 3) := by decide +kernel
theorem dL_law_167 : decode cL_law 167 = .ok (.pop, 1) := by decide +kernel
theorem dL_law_168 : decode cL_law 168 = .ok (.iinc 8 1, 3) := by decide +kernel
theorem dL_law_171 : decode cL_law 171 = .ok (.goto (-24), 3) := by decide +kernel
theorem dL_law_174 : decode cL_law 174 = .ok (.iinc 6 1, 3) := by decide +kernel
theorem dL_law_177 : decode cL_law 177 = .ok (.goto (-86), 3) := by decide +kernel
theorem dL_law_180 : decode cL_law 180 = .ok (.iinc 5 1, 3) := by decide +kernel
theorem dL_law_183 : decode cL_law 183 = .ok (.goto (-101), 3) := by decide +kernel
theorem dL_law_186 : decode cL_law 186 = .ok (.aload_n 1, 1) := by decide +kernel
theorem dL_law_187 : decode cL_law 187 = .ok (.aload 4, 2) := by decide +kernel
theorem dL_law_189 : decode cL_law 189 = .ok (.invokevirtual 85, 3) := by decide +kernel
theorem dL_law_192 : decode cL_law 192 = .ok (.invokestatic 89, 3) := by decide +kernel
theorem dL_law_195 : decode cL_law 195 = .ok (.aload_n 1, 1) := by decide +kernel
theorem dL_law_196 : decode cL_law 196 = .ok (.invokevirtual 93, 3) := by decide +kernel
theorem dL_law_199 : decode cL_law 199 = .ok (.istore 5, 2) := by decide +kernel
theorem dL_law_201 : decode cL_law 201 = .ok (.iload 5, 2) := by decide +kernel
theorem dL_law_203 : decode cL_law 203 = .ok (.bipush (-2), 2) := by decide +kernel
theorem dL_law_205 : decode cL_law 205 = .ok (.if_icmp .ne 6, 3) := by decide +kernel
theorem dL_law_208 : decode cL_law 208 = .ok (.goto 96, 3) := by decide +kernel
theorem dL_law_211 : decode cL_law 211 = .ok (.iload 5, 2) := by decide +kernel
theorem dL_law_213 : decode cL_law 213 = .ok (.ifCond .ge 5, 3) := by decide +kernel
theorem dL_law_216 : decode cL_law 216 = .ok (.iconst 0, 1) := by decide +kernel
theorem dL_law_217 : decode cL_law 217 = .ok (.ireturn, 1) := by decide +kernel
theorem dL_law_218 : decode cL_law 218 = .ok (.aload_n 1, 1) := by decide +kernel
theorem dL_law_219 : decode cL_law 219 = .ok (.iconst 2, 1) := by decide +kernel
theorem dL_law_220 : decode cL_law 220 = .ok (.iconst 0, 1) := by decide +kernel
theorem dL_law_221 : decode cL_law 221 = .ok (.iconst 1, 1) := by decide +kernel
theorem dL_law_222 : decode cL_law 222 = .ok (.invokestatic 96, 3) := by decide +kernel
theorem dL_law_225 : decode cL_law 225 = .ok (.istore 6, 2) := by decide +kernel
theorem dL_law_227 : decode cL_law 227 = .ok (.iconst 0, 1) := by decide +kernel
theorem dL_law_228 : decode cL_law 228 = .ok (.istore 7, 2) := by decide +kernel
theorem dL_law_230 : decode cL_law 230 = .ok (.iconst 1, 1) := by decide +kernel
theorem dL_law_231 : decode cL_law 231 = .ok (.istore 8, 2) := by decide +kernel
theorem dL_law_233 : decode cL_law 233 = .ok (.iload 8, 2) := by decide +kernel
theorem dL_law_235 : decode cL_law 235 = .ok (.iload_n 2, 1) := by decide +kernel
theorem dL_law_236 : decode cL_law 236 = .ok (.if_icmp .gt 51, 3) := by decide +kernel
theorem dL_law_239 : decode cL_law 239 = .ok (.aload_n 1, 1) := by decide +kernel
theorem dL_law_240 : decode cL_law 240 = .ok (.iload 8, 2) := by decide +kernel
theorem dL_law_242 : decode cL_law 242 = .ok (.invokevirtual 100, 3) := by decide +kernel
theorem dL_law_245 : decode cL_law 245 = .ok (.sipush 999, 3) := by decide +kernel
theorem dL_law_248 : decode cL_law 248 = .ok (.if_icmp .le 9, 3) := by decide +kernel
theorem dL_law_251 : decode cL_law 251 = .ok (.iconst 1, 1) := by decide +kernel
theorem dL_law_252 : decode cL_law 252 = .ok (.istore 7, 2) := by decide +kernel
theorem dL_law_254 : decode cL_law 254 = .ok (.goto 27, 3) := by decide +kernel
theorem dL_law_257 : decode cL_law 257 = .ok (.iload 6, 2) := by decide +kernel
theorem dL_law_259 : decode cL_law 259 = .ok (.iconst 1, 1) := by decide +kernel
theorem dL_law_260 : decode cL_law 260 = .ok (.if_icmp .ne 21, 3) := by decide +kernel
theorem dL_law_263 : decode cL_law 263 = .ok (.aload_n 1, 1) := by decide +kernel
theorem dL_law_264 : decode cL_law 264 = .ok (.iload 8, 2) := by decide +kernel
theorem dL_law_266 : decode cL_law 266 = .ok (.invokevirtual 100, 3) := by decide +kernel
theorem dL_law_269 : decode cL_law 269 = .ok (.aload_n 1, 1) := by decide +kernel
theorem dL_law_270 : decode cL_law 270 = .ok (.iconst 2, 1) := by decide +kernel
theorem dL_law_271 : decode cL_law 271 = .ok (.iload 8, 2) := by decide +kernel
theorem dL_law_273 : decode cL_law 273 = .ok (.invokevirtual 45, 3) := by decide +kernel
theorem dL_law_276 : decode cL_law 276 = .ok (.if_icmp .eq 5, 3) := by decide +kernel
theorem dL_law_279 : decode cL_law 279 = .ok (.iconst 0, 1) := by decide +kernel
theorem dL_law_280 : decode cL_law 280 = .ok (.ireturn, 1) := by decide +kernel
theorem dL_law_281 : decode cL_law 281 = .ok (.iinc 8 1, 3) := by decide +kernel
theorem dL_law_284 : decode cL_law 284 = .ok (.goto (-51), 3) := by decide +kernel
theorem dL_law_287 : decode cL_law 287 = .ok (.iload 6, 2) := by decide +kernel
theorem dL_law_289 : decode cL_law 289 = .ok (.iload 7, 2) := by decide +kernel
theorem dL_law_291 : decode cL_law 291 = .ok (.ifCond .eq 7, 3) := by decide +kernel
theorem dL_law_294 : decode cL_law 294 = .ok (.iconst 0, 1) := by decide +kernel
theorem dL_law_295 : decode cL_law 295 = .ok (.goto 4, 3) := by decide +kernel
theorem dL_law_298 : decode cL_law 298 = .ok (.iconst 1, 1) := by decide +kernel
theorem dL_law_299 : decode cL_law 299 = .ok (.if_icmp .eq 5, 3) := by decide +kernel
theorem dL_law_302 : decode cL_law 302 = .ok (.iconst 0, 1) := by decide +kernel
theorem dL_law_303 : decode cL_law 303 = .ok (.ireturn, 1) := by decide +kernel
theorem dL_law_304 : decode cL_law 304 = .ok (.iinc 3 1, 3) := by decide +kernel
theorem dL_law_307 : decode cL_law 307 = .ok (.goto (-243), 3) := by decide +kernel
theorem dL_law_310 : decode cL_law 310 = .ok (.iconst 0, 1) := by decide +kernel
theorem dL_law_311 : decode cL_law 311 = .ok (.istore_n 3, 1) := by decide +kernel
theorem dL_law_312 : decode cL_law 312 = .ok (.iload_n 3, 1) := by decide +kernel
theorem dL_law_313 : decode cL_law 313 = .ok (.bipush 6, 2) := by decide +kernel
theorem dL_law_315 : decode cL_law 315 = .ok (.if_icmp .ge 260, 3) := by decide +kernel
theorem dL_law_318 : decode cL_law 318 = .ok (.iconst 0, 1) := by decide +kernel
theorem dL_law_319 : decode cL_law 319 = .ok (.istore 4, 2) := by decide +kernel
theorem dL_law_321 : decode cL_law 321 = .ok (.iload 4, 2) := by decide +kernel
theorem dL_law_323 : decode cL_law 323 = .ok (.iconst 3, 1) := by decide +kernel
theorem dL_law_324 : decode cL_law 324 = .ok (.if_icmp .ge 31, 3) := by decide +kernel
theorem dL_law_327 : decode cL_law 327 = .ok (.aload_n 1, 1) := by decide +kernel
theorem dL_law_328 : decode cL_law 328 = .ok (.aload_n 0, 1) := by decide +kernel
theorem dL_law_329 : decode cL_law 329 = .ok (.bipush 90, 2) := by decide +kernel
theorem dL_law_331 : decode cL_law 331 = .ok (.bipush 18, 2) := by decide +kernel
theorem dL_law_333 : decode cL_law 333 = .ok (.iload_n 3, 1) := by decide +kernel
theorem dL_law_334 : decode cL_law 334 = .ok (.imul, 1) := by decide +kernel
theorem dL_law_335 : decode cL_law 335 = .ok (.iadd, 1) := by decide +kernel
theorem dL_law_336 : decode cL_law 336 = .ok (.bipush 6, 2) := by decide +kernel
theorem dL_law_338 : decode cL_law 338 = .ok (.iload 4, 2) := by decide +kernel
theorem dL_law_340 : decode cL_law 340 = .ok (.imul, 1) := by decide +kernel
theorem dL_law_341 : decode cL_law 341 = .ok (.iadd, 1) := by decide +kernel
theorem dL_law_342 : decode cL_law 342 = .ok (.iload 4, 2) := by decide +kernel
theorem dL_law_344 : decode cL_law 344 = .ok (.iload_n 2, 1) := by decide +kernel
theorem dL_law_345 : decode cL_law 345 = .ok (.iconst 3, 1) := by decide +kernel
theorem dL_law_346 : decode cL_law 346 = .ok (.invokestatic 103, 3) := by decide +kernel
theorem dL_law_349 : decode cL_law 349 = .ok (.iinc 4 1, 3) := by decide +kernel
theorem dL_law_352 : decode cL_law 352 = .ok (.goto (-31), 3) := by decide +kernel
theorem dL_law_355 : decode cL_law 355 = .ok (.aload_n 1, 1) := by decide +kernel
theorem dL_law_356 : decode cL_law 356 = .ok (.iconst 0, 1) := by decide +kernel
theorem dL_law_357 : decode cL_law 357 = .ok (.iconst 1, 1) := by decide +kernel
theorem dL_law_358 : decode cL_law 358 = .ok (.iconst 2, 1) := by decide +kernel
theorem dL_law_359 : decode cL_law 359 = .ok (.invokevirtual 107, 3) := by decide +kernel
theorem dL_law_362 : decode cL_law 362 = .ok (.iconst 1, 1) := by decide +kernel
theorem dL_law_363 : decode cL_law 363 = .ok (.if_icmp .eq 5, 3) := by decide +kernel
theorem dL_law_366 : decode cL_law 366 = .ok (.iconst 0, 1) := by decide +kernel
theorem dL_law_367 : decode cL_law 367 = .ok (.ireturn, 1) := by decide +kernel
theorem dL_law_368 : decode cL_law 368 = .ok (.aload_n 1, 1) := by decide +kernel
theorem dL_law_369 : decode cL_law 369 = .ok (.iconst 3, 1) := by decide +kernel
theorem dL_law_370 : decode cL_law 370 = .ok (.iconst 0, 1) := by decide +kernel
theorem dL_law_371 : decode cL_law 371 = .ok (.iconst 1, 1) := by decide +kernel
theorem dL_law_372 : decode cL_law 372 = .ok (.invokestatic 96, 3) := by decide +kernel
theorem dL_law_375 : decode cL_law 375 = .ok (.istore 4, 2) := by decide +kernel
theorem dL_law_377 : decode cL_law 377 = .ok (.iload 4, 2) := by decide +kernel
theorem dL_law_379 : decode cL_law 379 = .ok (.iconst 1, 1) := by decide +kernel
theorem dL_law_380 : decode cL_law 380 = .ok (.if_icmp .ne 12, 3) := by decide +kernel
theorem dL_law_383 : decode cL_law 383 = .ok (.aload_n 1, 1) := by decide +kernel
theorem dL_law_384 : decode cL_law 384 = .ok (.iconst 3, 1) := by decide +kernel
theorem dL_law_385 : decode cL_law 385 = .ok (.iconst 3, 1) := by decide +kernel
theorem dL_law_386 : decode cL_law 386 = .ok (.iconst 2, 1) := by decide +kernel
theorem dL_law_387 : decode cL_law 387 = .ok (.invokestatic 96, 3) := by decide +kernel
theorem dL_law_390 : decode cL_law 390 = .ok (.istore 4, 2) := by decide +kernel
theorem dL_law_392 : decode cL_law 392 = .ok (.aload_n 1, 1) := by decide +kernel
theorem dL_law_393 : decode cL_law 393 = .ok (.iconst 4, 1) := by decide +kernel
theorem dL_law_394 : decode cL_law 394 = .ok (.iconst 1, 1) := by decide +kernel
theorem dL_law_395 : decode cL_law 395 = .ok (.iconst 2, 1) := by decide +kernel
theorem dL_law_396 : decode cL_law 396 = .ok (.invokestatic 96, 3) := by decide +kernel
theorem dL_law_399 : decode cL_law 399 = .ok (.istore 5, 2) := by decide +kernel
theorem dL_law_401 : decode cL_law 401 = .ok (.iload 5, 2) := by decide +kernel
theorem dL_law_403 : decode cL_law 403 = .ok (.iconst 1, 1) := by decide +kernel
theorem dL_law_404 : decode cL_law 404 = .ok (.if_icmp .ne 12, 3) := by decide +kernel
theorem dL_law_407 : decode cL_law 407 = .ok (.aload_n 1, 1) := by decide +kernel
theorem dL_law_408 : decode cL_law 408 = .ok (.iconst 4, 1) := by decide +kernel
theorem dL_law_409 : decode cL_law 409 = .ok (.iconst 0, 1) := by decide +kernel
theorem dL_law_410 : decode cL_law 410 = .ok (.iconst 4, 1) := by decide +kernel
theorem dL_law_411 : decode cL_law 411 = .ok (.invokestatic 96, 3) := by decide +kernel
theorem dL_law_414 : decode cL_law 414 = .ok (.istore 5, 2) := by decide +kernel
theorem dL_law_416 : decode cL_law 416 = .ok (.iload 4, 2) := by decide +kernel
theorem dL_law_418 : decode cL_law 418 = .ok (.ifCond .lt 30, 3) := by decide +kernel
theorem dL_law_421 : decode cL_law 421 = .ok (.iload 5, 2) := by decide +kernel
theorem dL_law_423 : decode cL_law 423 = .ok (.ifCond .lt 25, 3) := by decide +kernel
theorem dL_law_426 : decode cL_law 426 = .ok (.iload 4, 2) := by decide +kernel
theorem dL_law_428 : decode cL_law 428 = .ok (.iconst 1, 1) := by decide +kernel
theorem dL_law_429 : decode cL_law 429 = .ok (.if_icmp .ne 21, 3) := by decide +kernel
theorem dL_law_432 : decode cL_law 432 = .ok (.iload 5, 2) := by decide +kernel
theorem dL_law_434 : decode cL_law 434 = .ok (.iconst 1, 1) := by decide +kernel
theorem dL_law_435 : decode cL_law 435 = .ok (.if_icmp .ne 15, 3) := by decide +kernel
theorem dL_law_438 : decode cL_law 438 = .ok (.aload_n 1, 1) := by decide +kernel
theorem dL_law_439 : decode cL_law 439 = .ok (.iconst 3, 1) := by decide +kernel
theorem dL_law_440 : decode cL_law 440 = .ok (.iconst 4, 1) := by decide +kernel
theorem dL_law_441 : decode cL_law 441 = .ok (.iload_n 2, 1) := by decide +kernel
theorem dL_law_442 : decode cL_law 442 = .ok (.invokestatic 110, 3) := by decide +kernel
theorem dL_law_445 : decode cL_law 445 = .ok (.ifCond .ne 5, 3) := by decide +kernel
theorem dL_law_448 : decode cL_law 448 = .ok (.iconst 0, 1) := by decide +kernel
theorem dL_law_449 : decode cL_law 449 = .ok (.ireturn, 1) := by decide +kernel
theorem dL_law_450 : decode cL_law 450 = .ok (.aload_n 1, 1) := by decide +kernel
theorem dL_law_451 : decode cL_law 451 = .ok (.iconst 5, 1) := by decide +kernel
theorem dL_law_452 : decode cL_law 452 = .ok (.iconst 0, 1) := by decide +kernel
theorem dL_law_453 : decode cL_law 453 = .ok (.invokestatic 114, 3) := by decide +kernel
theorem dL_law_456 : decode cL_law 456 = .ok (.istore 6, 2) := by decide +kernel
theorem dL_law_458 : decode cL_law 458 = .ok (.iload 6, 2) := by decide +kernel
theorem dL_law_460 : decode cL_law 460 = .ok (.ifCond .ge 5, 3) := by decide +kernel
theorem dL_law_463 : decode cL_law 463 = .ok (.iconst 0, 1) := by decide +kernel
theorem dL_law_464 : decode cL_law 464 = .ok (.ireturn, 1) := by decide +kernel
theorem dL_law_465 : decode cL_law 465 = .ok (.iload 6, 2) := by decide +kernel
theorem dL_law_467 : decode cL_law 467 = .ok (.ifCond .ne 6, 3) := by decide +kernel
theorem dL_law_470 : decode cL_law 470 = .ok (.goto 99, 3) := by decide +kernel
theorem dL_law_473 : decode cL_law 473 = .ok (.aload_n 1, 1) := by decide +kernel
theorem dL_law_474 : decode cL_law 474 = .ok (.bipush 6, 2) := by decide +kernel
theorem dL_law_476 : decode cL_law 476 = .ok (.iconst 0, 1) := by decide +kernel
theorem dL_law_477 : decode cL_law 477 = .ok (.iconst 5, 1) := by decide +kernel
theorem dL_law_478 : decode cL_law 478 = .ok (.invokestatic 96, 3) := by decide +kernel
theorem dL_law_481 : decode cL_law 481 = .ok (.iconst 1, 1) := by decide +kernel
theorem dL_law_482 : decode cL_law 482 = .ok (.if_icmp .ne 35, 3) := by decide +kernel
theorem dL_law_485 : decode cL_law 485 = .ok (.aload_n 1, 1) := by decide +kernel
theorem dL_law_486 : decode cL_law 486 = .ok (.bipush 6, 2) := by decide +kernel
theorem dL_law_488 : decode cL_law 488 = .ok (.iload_n 2, 1) := by decide +kernel
theorem dL_law_489 : decode cL_law 489 = .ok (.invokestatic 118, 3) := by decide +kernel
theorem dL_law_492 : decode cL_law 492 = .ok (.ifCond .eq 25, 3) := by decide +kernel
theorem dL_law_495 : decode cL_law 495 = .ok (.aload_n 1, 1) := by decide +kernel
theorem dL_law_496 : decode cL_law 496 = .ok (.bipush 6, 2) := by decide +kernel
theorem dL_law_498 : decode cL_law 498 = .ok (.iconst 5, 1) := by decide +kernel
theorem dL_law_499 : decode cL_law 499 = .ok (.iconst 0, 1) := by decide +kernel
theorem dL_law_500 : decode cL_law 500 = .ok (.invokestatic 96, 3) := by decide +kernel
theorem dL_law_503 : decode cL_law 503 = .ok (.iconst 1, 1) := by decide +kernel
theorem dL_law_504 : decode cL_law 504 = .ok (.if_icmp .ne 13, 3) := by decide +kernel
theorem dL_law_507 : decode cL_law 507 = .ok (.aload_n 1, 1) := by decide +kernel
theorem dL_law_508 : decode cL_law 508 = .ok (.bipush 6, 2) := by decide +kernel
theorem dL_law_510 : decode cL_law 510 = .ok (.iload_n 2, 1) := by decide +kernel
theorem dL_law_511 : decode cL_law 511 = .ok (.invokestatic 118, 3) := by decide +kernel
theorem dL_law_514 : decode cL_law 514 = .ok (.ifCond .ne 5, 3) := by decide +kernel
theorem dL_law_517 : decode cL_law 517 = .ok (.iconst 0, 1) := by decide +kernel
theorem dL_law_518 : decode cL_law 518 = .ok (.ireturn, 1) := by decide +kernel
theorem dL_law_519 : decode cL_law 519 = .ok (.aload_n 1, 1) := by decide +kernel
theorem dL_law_520 : decode cL_law 520 = .ok (.bipush 7, 2) := by decide +kernel
theorem dL_law_522 : decode cL_law 522 = .ok (.iconst 0, 1) := by decide +kernel
theorem dL_law_523 : decode cL_law 523 = .ok (.bipush 6, 2) := by decide +kernel
theorem dL_law_525 : decode cL_law 525 = .ok (.invokestatic 96, 3) := by decide +kernel
theorem dL_law_528 : decode cL_law 528 = .ok (.iconst 1, 1) := by decide +kernel
theorem dL_law_529 : decode cL_law 529 = .ok (.if_icmp .ne 38, 3) := by decide +kernel
theorem dL_law_532 : decode cL_law 532 = .ok (.aload_n 1, 1) := by decide +kernel
theorem dL_law_533 : decode cL_law 533 = .ok (.bipush 7, 2) := by decide +kernel
theorem dL_law_535 : decode cL_law 535 = .ok (.iconst 0, 1) := by decide +kernel
theorem dL_law_536 : decode cL_law 536 = .ok (.iload_n 2, 1) := by decide +kernel
theorem dL_law_537 : decode cL_law 537 = .ok (.invokestatic 110, 3) := by decide +kernel
theorem dL_law_540 : decode cL_law 540 = .ok (.ifCond .eq 27, 3) := by decide +kernel
theorem dL_law_543 : decode cL_law 543 = .ok (.aload_n 1, 1) := by decide +kernel
theorem dL_law_544 : decode cL_law 544 = .ok (.bipush 7, 2) := by decide +kernel
theorem dL_law_546 : decode cL_law 546 = .ok (.bipush 6, 2) := by decide +kernel
theorem dL_law_548 : decode cL_law 548 = .ok (.iconst 0, 1) := by decide +kernel
theorem dL_law_549 : decode cL_law 549 = .ok (.invokestatic 96, 3) := by decide +kernel
theorem dL_law_552 : decode cL_law 552 = .ok (.iconst 1, 1) := by decide +kernel
theorem dL_law_553 : decode cL_law 553 = .ok (.if_icmp .ne 14, 3) := by decide +kernel
theorem dL_law_556 : decode cL_law 556 = .ok (.aload_n 1, 1) := by decide +kernel
theorem dL_law_557 : decode cL_law 557 = .ok (.bipush 7, 2) := by decide +kernel
theorem dL_law_559 : decode cL_law 559 = .ok (.iconst 0, 1) := by decide +kernel
theorem dL_law_560 : decode cL_law 560 = .ok (.iload_n 2, 1) := by decide +kernel
theorem dL_law_561 : decode cL_law 561 = .ok (.invokestatic 110, 3) := by decide +kernel
theorem dL_law_564 : decode cL_law 564 = .ok (.ifCond .ne 5, 3) := by decide +kernel
theorem dL_law_567 : decode cL_law 567 = .ok (.iconst 0, 1) := by decide +kernel
theorem dL_law_568 : decode cL_law 568 = .ok (.ireturn, 1) := by decide +kernel
theorem dL_law_569 : decode cL_law 569 = .ok (.iinc 3 1, 3) := by decide +kernel
theorem dL_law_572 : decode cL_law 572 = .ok (.goto (-260), 3) := by decide +kernel
theorem dL_law_575 : decode cL_law 575 = .ok (.iconst 1, 1) := by decide +kernel
theorem dL_law_576 : decode cL_law 576 = .ok (.ireturn, 1) := by decide +kernel
