theorem gj_31 : Cond.initialized RJ7 ∈ goodTbl := mgP tb_1 12 rfl (by decide +kernel)
theorem gj_32 : Cond.initialized RJ10 ∈ goodTbl := mgP tb_1 13 rfl (by decide +kernel)
theorem gj_33 : Cond.initialized RJ9 ∈ goodTbl := mgP tb_1 14 rfl (by decide +kernel)
theorem gj_34 : Cond.initialized RJ5 ∈ goodTbl := mgP tb_1 15 rfl (by decide +kernel)
theorem gj_35 : Cond.initialized RJ4 ∈ goodTbl := mgP tb_1 16 rfl (by decide +kernel)
theorem gj_36 : Cond.initialized RJ0 ∈ goodTbl := mgP tb_1 17 rfl (by decide +kernel)
theorem gj_39 : Cond.initialized RJ1 ∈ goodTbl := mgP tb_1 20 rfl (by decide +kernel)
theorem gj_40 : Cond.initialized RJ3 ∈ goodTbl := mgP tb_1 21 rfl (by decide +kernel)
theorem gj_47 : Cond.instanceMethod Lib.objectInit ∈ goodTbl := mgP tb_1 28 rfl (by decide +kernel)
theorem gj_48 : Cond.code Lib.objectInit ⟨#[0xb1]⟩ 1 none ∈ goodTbl := mgP tb_1 29 rfl (by decide +kernel)
theorem gj_392 : Cond.static arraycopyName ∈ goodTbl := mgP tb_2 133 rfl (by decide +kernel)
theorem gj_393 : Cond.native arraycopyName ∈ goodTbl := mgP tb_2 134 rfl (by decide +kernel)
theorem gj_569 : Cond.static Lib.Math.min.name ∈ goodTbl := mgP tb_3 70 rfl (by decide +kernel)
theorem gj_570 : Cond.code Lib.Math.min.name Lib.Math.min.code 2 (some .int) ∈ goodTbl := mgP tb_3 71 rfl (by decide +kernel)
theorem gj_714 : Cond.code yJ0_length_8abf5 cJ0_length_8abf5 1 (some .int) ∈ goodTbl := mgP tb_3 215 rfl (by decide +kernel)
theorem gj_715 : Cond.methodLink RJ0 335 yJ0_coder_7d493 ∈ goodTbl := mgP tb_3 216 rfl (by decide +kernel)
theorem gj_716 : Cond.instanceMethod yJ0_coder_7d493 ∈ goodTbl := mgP tb_3 217 rfl (by decide +kernel)
theorem gj_717 : Cond.selects RJ0 yJ0_coder_7d493 yJ0_coder_7d493 ∈ goodTbl := mgP tb_3 218 rfl (by decide +kernel)
theorem gj_718 : Cond.code yJ0_coder_7d493 cJ0_coder_7d493 1 (some .byte) ∈ goodTbl := mgP tb_3 219 rfl (by decide +kernel)
theorem gj_719 : Cond.fieldLink RJ0 38 "java/lang/String" "COMPACT_STRINGS" "Z" ∈ goodTbl := mgP tb_3 220 rfl (by decide +kernel)
theorem gj_724 : Cond.code yJ0_charAt_5068e cJ0_charAt_5068e 2 (some .char) ∈ goodTbl := mgP tb_3 225 rfl (by decide +kernel)
theorem gj_725 : Cond.methodLink RJ0 492 yJ0_isLatin1_aae02 ∈ goodTbl := mgP tb_3 226 rfl (by decide +kernel)
theorem gj_726 : Cond.instanceMethod yJ0_isLatin1_aae02 ∈ goodTbl := mgP tb_3 227 rfl (by decide +kernel)
theorem gj_727 : Cond.selects RJ0 yJ0_isLatin1_aae02 yJ0_isLatin1_aae02 ∈ goodTbl := mgP tb_3 228 rfl (by decide +kernel)
theorem gj_728 : Cond.code yJ0_isLatin1_aae02 cJ0_isLatin1_aae02 1 (some .boolean) ∈ goodTbl := mgP tb_3 229 rfl (by decide +kernel)
theorem gj_729 : Cond.methodLink RJ0 495 yJ1_charAt_3b067 ∈ goodTbl := mgP tb_3 230 rfl (by decide +kernel)
theorem gj_730 : Cond.static yJ1_charAt_3b067 ∈ goodTbl := mgP tb_3 231 rfl (by decide +kernel)
theorem gj_731 : Cond.code yJ1_charAt_3b067 cJ1_charAt_3b067 2 (some .char) ∈ goodTbl := mgP tb_3 232 rfl (by decide +kernel)
theorem gj_732 : Cond.methodLink RJ1 9 yJ0_checkIndex_df160 ∈ goodTbl := mgP tb_3 233 rfl (by decide +kernel)
theorem gj_733 : Cond.static yJ0_checkIndex_df160 ∈ goodTbl := mgP tb_3 234 rfl (by decide +kernel)
theorem gj_734 : Cond.code yJ0_checkIndex_df160 cJ0_checkIndex_df160 2 (none) ∈ goodTbl := mgP tb_3 235 rfl (by decide +kernel)
theorem gj_735 : Cond.fieldLink RJ0 1053 "jdk/internal/util/Preconditions" "SIOOBE_FORMATTER" "Ljava/util/function/BiFunction;" ∈ goodTbl := mgP tb_3 236 rfl (by decide +kernel)
theorem gj_737 : Cond.methodLink RJ0 1059 yJ3_checkIndex_8e157 ∈ goodTbl := mgP tb_3 238 rfl (by decide +kernel)
theorem gj_738 : Cond.static yJ3_checkIndex_8e157 ∈ goodTbl := mgP tb_3 239 rfl (by decide +kernel)
theorem gj_739 : Cond.code yJ3_checkIndex_8e157 cJ3_checkIndex_8e157 3 (some .int) ∈ goodTbl := mgP tb_4 0 rfl (by decide +kernel)
theorem gj_789 : Cond.code yJ4_init_da8c8 cJ4_init_da8c8 1 (none) ∈ goodTbl := mgP tb_4 50 rfl (by decide +kernel)
theorem gj_790 : Cond.methodLink RJ4 1 yJ5_init_d00df ∈ goodTbl := mgP tb_4 51 rfl (by decide +kernel)
theorem gj_791 : Cond.instanceMethod yJ5_init_d00df ∈ goodTbl := mgP tb_4 52 rfl (by decide +kernel)
theorem gj_792 : Cond.code yJ5_init_d00df cJ5_init_d00df 2 (none) ∈ goodTbl := mgP tb_4 53 rfl (by decide +kernel)
theorem gj_793 : Cond.methodLink RJ5 3 Lib.objectInit ∈ goodTbl := mgP tb_4 54 rfl (by decide +kernel)
theorem gj_794 : Cond.fieldLink RJ5 18 "java/lang/String" "COMPACT_STRINGS" "Z" ∈ goodTbl := mgP tb_4 55 rfl (by decide +kernel)
theorem gj_802 : Cond.fieldLink RJ5 15 "java/lang/AbstractStringBuilder" "value" "[B" ∈ goodTbl := mgP tb_4 63 rfl (by decide +kernel)
theorem gj_803 : Cond.fieldLink RJ5 22 "java/lang/AbstractStringBuilder" "coder" "B" ∈ goodTbl := mgP tb_4 64 rfl (by decide +kernel)
theorem gj_805 : Cond.fieldLink RJ5 79 "java/lang/AbstractStringBuilder" "count" "I" ∈ goodTbl := mgP tb_4 66 rfl (by decide +kernel)
theorem gj_814 : Cond.superclass RJ4 RJ5 ∈ goodTbl := mgP tb_4 75 rfl (by decide +kernel)
theorem gj_815 : Cond.arrayClass .byte ∈ goodTbl := mgP tb_4 76 rfl (by decide +kernel)
theorem gj_819 : Cond.code yJ4_append_cf468 cJ4_append_cf468 2 (some (.object "java/lang/StringBuilder")) ∈ goodTbl := mgP tb_4 80 rfl (by decide +kernel)
theorem gj_820 : Cond.methodLink RJ4 50 yJ5_append_3fe6f ∈ goodTbl := mgP tb_4 81 rfl (by decide +kernel)
theorem gj_821 : Cond.instanceMethod yJ5_append_3fe6f ∈ goodTbl := mgP tb_4 82 rfl (by decide +kernel)
theorem gj_822 : Cond.code yJ5_append_3fe6f cJ5_append_3fe6f 2 (some (.object "java/lang/AbstractStringBuilder")) ∈ goodTbl := mgP tb_4 83 rfl (by decide +kernel)
theorem gj_823 : Cond.methodLink RJ5 100 yJ5_ensureCapacityInternal_d00df ∈ goodTbl := mgP tb_4 84 rfl (by decide +kernel)
theorem gj_825 : Cond.instanceMethod yJ5_ensureCapacityInternal_d00df ∈ goodTbl := mgP tb_4 86 rfl (by decide +kernel)
theorem gj_826 : Cond.code yJ5_ensureCapacityInternal_d00df cJ5_ensureCapacityInternal_d00df 3 (none) ∈ goodTbl := mgP tb_4 87 rfl (by decide +kernel)
theorem gj_843 : Cond.methodLink RJ7 310 ⟨"[B", "clone", "()Ljava/lang/Object;"⟩ ∈ goodTbl := mgP tb_4 104 rfl (by decide +kernel)
theorem gj_844 : Cond.sameMethod "[B" "java/lang/Object" "clone" "()Ljava/lang/Object;" ∈ goodTbl := mgP tb_4 105 rfl (by decide +kernel)
theorem gj_845 : Cond.native ⟨"java/lang/Object", "clone", "()Ljava/lang/Object;"⟩ ∈ goodTbl := mgP tb_4 106 rfl (by decide +kernel)
theorem gj_846 : Cond.instanceMethod ⟨"java/lang/Object", "clone", "()Ljava/lang/Object;"⟩ ∈ goodTbl := mgP tb_4 107 rfl (by decide +kernel)
theorem gj_847 : Cond.selects "[B" ⟨"[B", "clone", "()Ljava/lang/Object;"⟩ ⟨"java/lang/Object", "clone", "()Ljava/lang/Object;"⟩ ∈ goodTbl := mgP tb_4 108 rfl (by decide +kernel)
theorem gj_849 : Cond.classLink RJ7 311 "[B" ∈ goodTbl := mgP tb_4 110 rfl (by decide +kernel)
theorem gj_850 : Cond.methodLink RJ7 304 Lib.Math.min.name ∈ goodTbl := mgP tb_4 111 rfl (by decide +kernel)
theorem gj_851 : Cond.methodLink RJ7 150 arraycopyName ∈ goodTbl := mgP tb_4 112 rfl (by decide +kernel)
theorem gj_852 : Cond.methodLink RJ5 83 yJ5_isLatin1_aae02 ∈ goodTbl := mgP tb_4 113 rfl (by decide +kernel)
theorem gj_853 : Cond.instanceMethod yJ5_isLatin1_aae02 ∈ goodTbl := mgP tb_4 114 rfl (by decide +kernel)
theorem gj_855 : Cond.selects RJ4 yJ5_isLatin1_aae02 yJ5_isLatin1_aae02 ∈ goodTbl := mgP tb_4 116 rfl (by decide +kernel)
theorem gj_856 : Cond.code yJ5_isLatin1_aae02 cJ5_isLatin1_aae02 1 (some .boolean) ∈ goodTbl := mgP tb_4 117 rfl (by decide +kernel)
theorem gj_857 : Cond.methodLink RJ5 191 yJ1_canEncode_fc78d ∈ goodTbl := mgP tb_4 118 rfl (by decide +kernel)
theorem gj_858 : Cond.static yJ1_canEncode_fc78d ∈ goodTbl := mgP tb_4 119 rfl (by decide +kernel)
theorem gj_859 : Cond.code yJ1_canEncode_fc78d cJ1_canEncode_fc78d 1 (some .boolean) ∈ goodTbl := mgP tb_4 120 rfl (by decide +kernel)
theorem gj_888 : Cond.code yJ4_toString_0e30d cJ4_toString_0e30d 1 (some (.object "java/lang/String")) ∈ goodTbl := mgP tb_4 149 rfl (by decide +kernel)
theorem gj_889 : Cond.classLink RJ4 18 "java/lang/String" ∈ goodTbl := mgP tb_4 150 rfl (by decide +kernel)
theorem gj_890 : Cond.instantiable RJ0 4 ∈ goodTbl := mgP tb_4 151 rfl (by decide +kernel)
theorem gj_891 : Cond.methodLink RJ4 137 yJ0_init_81219 ∈ goodTbl := mgP tb_4 152 rfl (by decide +kernel)
theorem gj_892 : Cond.instanceMethod yJ0_init_81219 ∈ goodTbl := mgP tb_4 153 rfl (by decide +kernel)
theorem gj_893 : Cond.code yJ0_init_81219 cJ0_init_81219 2 (none) ∈ goodTbl := mgP tb_4 154 rfl (by decide +kernel)
theorem gj_894 : Cond.methodLink RJ0 489 yJ0_init_db425 ∈ goodTbl := mgP tb_4 155 rfl (by decide +kernel)
theorem gj_895 : Cond.instanceMethod yJ0_init_db425 ∈ goodTbl := mgP tb_4 156 rfl (by decide +kernel)
theorem gj_896 : Cond.code yJ0_init_db425 cJ0_init_db425 5 (none) ∈ goodTbl := mgP tb_4 157 rfl (by decide +kernel)
theorem gj_897 : Cond.methodLink RJ0 1 Lib.objectInit ∈ goodTbl := mgP tb_4 158 rfl (by decide +kernel)
theorem gj_898 : Cond.methodLink RJ0 552 yJ5_getValue_6d5f1 ∈ goodTbl := mgP tb_4 159 rfl (by decide +kernel)
theorem gj_899 : Cond.instanceMethod yJ5_getValue_6d5f1 ∈ goodTbl := mgP tb_4 160 rfl (by decide +kernel)
theorem gj_901 : Cond.selects RJ4 yJ5_getValue_6d5f1 yJ5_getValue_6d5f1 ∈ goodTbl := mgP tb_4 162 rfl (by decide +kernel)
theorem gj_902 : Cond.code yJ5_getValue_6d5f1 cJ5_getValue_6d5f1 1 (some (.array .byte)) ∈ goodTbl := mgP tb_4 163 rfl (by decide +kernel)
theorem gj_903 : Cond.methodLink RJ0 549 yJ5_length_8abf5 ∈ goodTbl := mgP tb_4 164 rfl (by decide +kernel)
theorem gj_904 : Cond.instanceMethod yJ5_length_8abf5 ∈ goodTbl := mgP tb_4 165 rfl (by decide +kernel)
theorem gj_905 : Cond.sameMethod RJ5 RJ5 "length" "()I" ∈ goodTbl := mgP tb_4 166 rfl (by decide +kernel)
theorem gj_906 : Cond.selects RJ4 yJ5_length_8abf5 yJ4_length_8abf5 ∈ goodTbl := mgP tb_4 167 rfl (by decide +kernel)
theorem gj_907 : Cond.instanceMethod yJ4_length_8abf5 ∈ goodTbl := mgP tb_4 168 rfl (by decide +kernel)
theorem gj_908 : Cond.code yJ4_length_8abf5 cJ4_length_8abf5 1 (some .int) ∈ goodTbl := mgP tb_4 169 rfl (by decide +kernel)
theorem gj_909 : Cond.methodLink RJ4 343 yJ5_length_8abf5 ∈ goodTbl := mgP tb_4 170 rfl (by decide +kernel)
theorem gj_910 : Cond.code yJ5_length_8abf5 cJ5_length_8abf5 1 (some .int) ∈ goodTbl := mgP tb_4 171 rfl (by decide +kernel)
theorem gj_911 : Cond.methodLink RJ0 1047 yJ5_isLatin1_aae02 ∈ goodTbl := mgP tb_4 172 rfl (by decide +kernel)
theorem gj_912 : Cond.methodLink RJ0 54 yJ7_copyOfRange_39247 ∈ goodTbl := mgP tb_4 173 rfl (by decide +kernel)
theorem gj_913 : Cond.static yJ7_copyOfRange_39247 ∈ goodTbl := mgP tb_4 174 rfl (by decide +kernel)
theorem gj_914 : Cond.code yJ7_copyOfRange_39247 cJ7_copyOfRange_39247 3 (some (.array .byte)) ∈ goodTbl := mgP tb_4 175 rfl (by decide +kernel)
theorem gj_915 : Cond.methodLink RJ7 339 yJ7_copyOfRangeByte_39247 ∈ goodTbl := mgP tb_4 176 rfl (by decide +kernel)
theorem gj_916 : Cond.static yJ7_copyOfRangeByte_39247 ∈ goodTbl := mgP tb_4 177 rfl (by decide +kernel)
theorem gj_917 : Cond.code yJ7_copyOfRangeByte_39247 cJ7_copyOfRangeByte_39247 5 (some (.array .byte)) ∈ goodTbl := mgP tb_4 178 rfl (by decide +kernel)
theorem gj_918 : Cond.methodLink RJ7 343 yJ7_checkLength_df160 ∈ goodTbl := mgP tb_4 179 rfl (by decide +kernel)
theorem gj_919 : Cond.static yJ7_checkLength_df160 ∈ goodTbl := mgP tb_4 180 rfl (by decide +kernel)
theorem gj_920 : Cond.code yJ7_checkLength_df160 cJ7_checkLength_df160 2 (none) ∈ goodTbl := mgP tb_4 181 rfl (by decide +kernel)
theorem gj_931 : Cond.fieldLink RJ0 9 "java/lang/String" "value" "[B" ∈ goodTbl := mgP tb_4 192 rfl (by decide +kernel)
theorem gj_932 : Cond.fieldLink RJ0 15 "java/lang/String" "coder" "B" ∈ goodTbl := mgP tb_4 193 rfl (by decide +kernel)
theorem gj_942 : Cond.sameMethod RJ5 RJ5 "append" "(C)Ljava/lang/AbstractStringBuilder;" ∈ goodTbl := mgP tb_4 203 rfl (by decide +kernel)
theorem wsJ0 : ∀ z ∈ u_ws RJ0 TJ0 4, z ∈ goodTbl := wsI _ [(4, 194), (4, 196), (4, 198), (4, 200)] (by decide +kernel)
theorem nmJ0 : ∀ a, a < 4 → ∀ b, b < 4 → a ≠ b → (TJ0 a).2.1 ≠ (TJ0 b).2.1 := by decide +kernel
theorem tyJ0_ok : ∀ k, k < 4 → parseFieldDescriptor (TJ0 k).2.2.1 = some (tyJ0 k) := by decide +kernel
theorem wsJ4 : ∀ z ∈ u_ws RJ4 TJ4 4, z ∈ goodTbl := wsI _ [(4, 67), (4, 69), (4, 71), (4, 73)] (by decide +kernel)
theorem nmJ4 : ∀ a, a < 4 → ∀ b, b < 4 → a ≠ b → (TJ4 a).2.1 ≠ (TJ4 b).2.1 := by decide +kernel
theorem tyJ4_ok : ∀ k, k < 4 → parseFieldDescriptor (TJ4 k).2.2.1 = some (tyJ4 k) := by decide +kernel
abbrev mu_J5_isLatin1_aae02 : MD := (yJ5_isLatin1_aae02, cJ5_isLatin1_aae02, 1, some .boolean, 0)
theorem ok_J5_isLatin1_aae02 : MOK mu_J5_isLatin1_aae02 0 := ⟨gj_856, gj_34, (by decide +kernel : plainFor yJ5_isLatin1_aae02 = true), ⟨(by decide +kernel : yJ5_isLatin1_aae02.cls ≠ "java/lang/invoke/MethodHandle"), (by decide +kernel : yJ5_isLatin1_aae02.cls ≠ "java/lang/invoke/VarHandle"), (by decide +kernel : (parseMethodDescriptor yJ5_isLatin1_aae02.desc).map (fun d => d.parameters.length) = some 0)⟩, Nat.le_of_ble_eq_true rfl⟩
abbrev mu_J1_canEncode_fc78d : MD := (yJ1_canEncode_fc78d, cJ1_canEncode_fc78d, 1, some .boolean, 0)
theorem ok_J1_canEncode_fc78d : MOK mu_J1_canEncode_fc78d 1 := ⟨gj_859, gj_39, (by decide +kernel : plainFor yJ1_canEncode_fc78d = true), ⟨(by decide +kernel : yJ1_canEncode_fc78d.cls ≠ "java/lang/invoke/MethodHandle"), (by decide +kernel : yJ1_canEncode_fc78d.cls ≠ "java/lang/invoke/VarHandle"), (by decide +kernel : (parseMethodDescriptor yJ1_canEncode_fc78d.desc).map (fun d => d.parameters.length) = some 1)⟩, Nat.le_of_ble_eq_true rfl⟩
abbrev mu_J5_ensureCapacityInternal_d00df : MD := (yJ5_ensureCapacityInternal_d00df, cJ5_ensureCapacityInternal_d00df, 3, none, 0)
theorem ok_J5_ensureCapacityInternal_d00df : MOK mu_J5_ensureCapacityInternal_d00df 1 := ⟨gj_826, gj_34, (by decide +kernel : plainFor yJ5_ensureCapacityInternal_d00df = true), ⟨(by decide +kernel : yJ5_ensureCapacityInternal_d00df.cls ≠ "java/lang/invoke/MethodHandle"), (by decide +kernel : yJ5_ensureCapacityInternal_d00df.cls ≠ "java/lang/invoke/VarHandle"), (by decide +kernel : (parseMethodDescriptor yJ5_ensureCapacityInternal_d00df.desc).map (fun d => d.parameters.length) = some 1)⟩, Nat.le_of_ble_eq_true rfl⟩
abbrev mu_J5_append_3fe6f : MD := (yJ5_append_3fe6f, cJ5_append_3fe6f, 2, some (.object "java/lang/AbstractStringBuilder"), 1)
theorem ok_J5_append_3fe6f : MOK mu_J5_append_3fe6f 1 := ⟨gj_822, gj_34, (by decide +kernel : plainFor yJ5_append_3fe6f = true), ⟨(by decide +kernel : yJ5_append_3fe6f.cls ≠ "java/lang/invoke/MethodHandle"), (by decide +kernel : yJ5_append_3fe6f.cls ≠ "java/lang/invoke/VarHandle"), (by decide +kernel : (parseMethodDescriptor yJ5_append_3fe6f.desc).map (fun d => d.parameters.length) = some 1)⟩, Nat.le_of_ble_eq_true rfl⟩
abbrev mu_J4_append_cf468 : MD := (yJ4_append_cf468, cJ4_append_cf468, 2, some (.object "java/lang/StringBuilder"), 2)
theorem ok_J4_append_cf468 : MOK mu_J4_append_cf468 1 := ⟨gj_819, gj_35, (by decide +kernel : plainFor yJ4_append_cf468 = true), ⟨(by decide +kernel : yJ4_append_cf468.cls ≠ "java/lang/invoke/MethodHandle"), (by decide +kernel : yJ4_append_cf468.cls ≠ "java/lang/invoke/VarHandle"), (by decide +kernel : (parseMethodDescriptor yJ4_append_cf468.desc).map (fun d => d.parameters.length) = some 1)⟩, Nat.le_of_ble_eq_true rfl⟩
abbrev mu_J5_init_d00df : MD := (yJ5_init_d00df, cJ5_init_d00df, 2, none, 1)
theorem ok_J5_init_d00df : MOK mu_J5_init_d00df 1 := ⟨gj_792, gj_34, (by decide +kernel : plainFor yJ5_init_d00df = true), ⟨(by decide +kernel : yJ5_init_d00df.cls ≠ "java/lang/invoke/MethodHandle"), (by decide +kernel : yJ5_init_d00df.cls ≠ "java/lang/invoke/VarHandle"), (by decide +kernel : (parseMethodDescriptor yJ5_init_d00df.desc).map (fun d => d.parameters.length) = some 1)⟩, Nat.le_of_ble_eq_true rfl⟩
abbrev mu_J4_init_da8c8 : MD := (yJ4_init_da8c8, cJ4_init_da8c8, 1, none, 2)
theorem ok_J4_init_da8c8 : MOK mu_J4_init_da8c8 0 := ⟨gj_789, gj_35, (by decide +kernel : plainFor yJ4_init_da8c8 = true), ⟨(by decide +kernel : yJ4_init_da8c8.cls ≠ "java/lang/invoke/MethodHandle"), (by decide +kernel : yJ4_init_da8c8.cls ≠ "java/lang/invoke/VarHandle"), (by decide +kernel : (parseMethodDescriptor yJ4_init_da8c8.desc).map (fun d => d.parameters.length) = some 0)⟩, Nat.le_of_ble_eq_true rfl⟩
abbrev mu_J5_getValue_6d5f1 : MD := (yJ5_getValue_6d5f1, cJ5_getValue_6d5f1, 1, some (.array .byte), 0)
theorem ok_J5_getValue_6d5f1 : MOK mu_J5_getValue_6d5f1 0 := ⟨gj_902, gj_34, (by decide +kernel : plainFor yJ5_getValue_6d5f1 = true), ⟨(by decide +kernel : yJ5_getValue_6d5f1.cls ≠ "java/lang/invoke/MethodHandle"), (by decide +kernel : yJ5_getValue_6d5f1.cls ≠ "java/lang/invoke/VarHandle"), (by decide +kernel : (parseMethodDescriptor yJ5_getValue_6d5f1.desc).map (fun d => d.parameters.length) = some 0)⟩, Nat.le_of_ble_eq_true rfl⟩
abbrev mu_J5_length_8abf5 : MD := (yJ5_length_8abf5, cJ5_length_8abf5, 1, some .int, 0)
theorem ok_J5_length_8abf5 : MOK mu_J5_length_8abf5 0 := ⟨gj_910, gj_34, (by decide +kernel : plainFor yJ5_length_8abf5 = true), ⟨(by decide +kernel : yJ5_length_8abf5.cls ≠ "java/lang/invoke/MethodHandle"), (by decide +kernel : yJ5_length_8abf5.cls ≠ "java/lang/invoke/VarHandle"), (by decide +kernel : (parseMethodDescriptor yJ5_length_8abf5.desc).map (fun d => d.parameters.length) = some 0)⟩, Nat.le_of_ble_eq_true rfl⟩
abbrev mu_J4_length_8abf5 : MD := (yJ4_length_8abf5, cJ4_length_8abf5, 1, some .int, 1)
theorem ok_J4_length_8abf5 : MOK mu_J4_length_8abf5 0 := ⟨gj_908, gj_35, (by decide +kernel : plainFor yJ4_length_8abf5 = true), ⟨(by decide +kernel : yJ4_length_8abf5.cls ≠ "java/lang/invoke/MethodHandle"), (by decide +kernel : yJ4_length_8abf5.cls ≠ "java/lang/invoke/VarHandle"), (by decide +kernel : (parseMethodDescriptor yJ4_length_8abf5.desc).map (fun d => d.parameters.length) = some 0)⟩, Nat.le_of_ble_eq_true rfl⟩
abbrev mu_J7_checkLength_df160 : MD := (yJ7_checkLength_df160, cJ7_checkLength_df160, 2, none, 0)
theorem ok_J7_checkLength_df160 : MOK mu_J7_checkLength_df160 2 := ⟨gj_920, gj_31, (by decide +kernel : plainFor yJ7_checkLength_df160 = true), ⟨(by decide +kernel : yJ7_checkLength_df160.cls ≠ "java/lang/invoke/MethodHandle"), (by decide +kernel : yJ7_checkLength_df160.cls ≠ "java/lang/invoke/VarHandle"), (by decide +kernel : (parseMethodDescriptor yJ7_checkLength_df160.desc).map (fun d => d.parameters.length) = some 2)⟩, Nat.le_of_ble_eq_true rfl⟩
abbrev mu_J7_copyOfRangeByte_39247 : MD := (yJ7_copyOfRangeByte_39247, cJ7_copyOfRangeByte_39247, 5, some (.array .byte), 1)
theorem ok_J7_copyOfRangeByte_39247 : MOK mu_J7_copyOfRangeByte_39247 3 := ⟨gj_917, gj_31, (by decide +kernel : plainFor yJ7_copyOfRangeByte_39247 = true), ⟨(by decide +kernel : yJ7_copyOfRangeByte_39247.cls ≠ "java/lang/invoke/MethodHandle"), (by decide +kernel : yJ7_copyOfRangeByte_39247.cls ≠ "java/lang/invoke/VarHandle"), (by decide +kernel : (parseMethodDescriptor yJ7_copyOfRangeByte_39247.desc).map (fun d => d.parameters.length) = some 3)⟩, Nat.le_of_ble_eq_true rfl⟩
abbrev mu_J7_copyOfRange_39247 : MD := (yJ7_copyOfRange_39247, cJ7_copyOfRange_39247, 3, some (.array .byte), 2)
theorem ok_J7_copyOfRange_39247 : MOK mu_J7_copyOfRange_39247 3 := ⟨gj_914, gj_31, (by decide +kernel : plainFor yJ7_copyOfRange_39247 = true), ⟨(by decide +kernel : yJ7_copyOfRange_39247.cls ≠ "java/lang/invoke/MethodHandle"), (by decide +kernel : yJ7_copyOfRange_39247.cls ≠ "java/lang/invoke/VarHandle"), (by decide +kernel : (parseMethodDescriptor yJ7_copyOfRange_39247.desc).map (fun d => d.parameters.length) = some 3)⟩, Nat.le_of_ble_eq_true rfl⟩
abbrev mu_J0_init_db425 : MD := (yJ0_init_db425, cJ0_init_db425, 5, none, 3)
theorem ok_J0_init_db425 : MOK mu_J0_init_db425 2 := ⟨gj_896, gj_36, (by decide +kernel : plainFor yJ0_init_db425 = true), ⟨(by decide +kernel : yJ0_init_db425.cls ≠ "java/lang/invoke/MethodHandle"), (by decide +kernel : yJ0_init_db425.cls ≠ "java/lang/invoke/VarHandle"), (by decide +kernel : (parseMethodDescriptor yJ0_init_db425.desc).map (fun d => d.parameters.length) = some 2)⟩, Nat.le_of_ble_eq_true rfl⟩
abbrev mu_J0_init_81219 : MD := (yJ0_init_81219, cJ0_init_81219, 2, none, 4)
theorem ok_J0_init_81219 : MOK mu_J0_init_81219 1 := ⟨gj_893, gj_36, (by decide +kernel : plainFor yJ0_init_81219 = true), ⟨(by decide +kernel : yJ0_init_81219.cls ≠ "java/lang/invoke/MethodHandle"), (by decide +kernel : yJ0_init_81219.cls ≠ "java/lang/invoke/VarHandle"), (by decide +kernel : (parseMethodDescriptor yJ0_init_81219.desc).map (fun d => d.parameters.length) = some 1)⟩, Nat.le_of_ble_eq_true rfl⟩
abbrev mu_J4_toString_0e30d : MD := (yJ4_toString_0e30d, cJ4_toString_0e30d, 1, some (.object "java/lang/String"), 5)
theorem ok_J4_toString_0e30d : MOK mu_J4_toString_0e30d 0 := ⟨gj_888, gj_35, (by decide +kernel : plainFor yJ4_toString_0e30d = true), ⟨(by decide +kernel : yJ4_toString_0e30d.cls ≠ "java/lang/invoke/MethodHandle"), (by decide +kernel : yJ4_toString_0e30d.cls ≠ "java/lang/invoke/VarHandle"), (by decide +kernel : (parseMethodDescriptor yJ4_toString_0e30d.desc).map (fun d => d.parameters.length) = some 0)⟩, Nat.le_of_ble_eq_true rfl⟩
abbrev mu_J0_coder_7d493 : MD := (yJ0_coder_7d493, cJ0_coder_7d493, 1, some .byte, 0)
theorem ok_J0_coder_7d493 : MOK mu_J0_coder_7d493 0 := ⟨gj_718, gj_36, (by decide +kernel : plainFor yJ0_coder_7d493 = true), ⟨(by decide +kernel : yJ0_coder_7d493.cls ≠ "java/lang/invoke/MethodHandle"), (by decide +kernel : yJ0_coder_7d493.cls ≠ "java/lang/invoke/VarHandle"), (by decide +kernel : (parseMethodDescriptor yJ0_coder_7d493.desc).map (fun d => d.parameters.length) = some 0)⟩, Nat.le_of_ble_eq_true rfl⟩
abbrev mu_J0_length_8abf5 : MD := (yJ0_length_8abf5, cJ0_length_8abf5, 1, some .int, 1)
theorem ok_J0_length_8abf5 : MOK mu_J0_length_8abf5 0 := ⟨gj_714, gj_36, (by decide +kernel : plainFor yJ0_length_8abf5 = true), ⟨(by decide +kernel : yJ0_length_8abf5.cls ≠ "java/lang/invoke/MethodHandle"), (by decide +kernel : yJ0_length_8abf5.cls ≠ "java/lang/invoke/VarHandle"), (by decide +kernel : (parseMethodDescriptor yJ0_length_8abf5.desc).map (fun d => d.parameters.length) = some 0)⟩, Nat.le_of_ble_eq_true rfl⟩
abbrev mu_J0_isLatin1_aae02 : MD := (yJ0_isLatin1_aae02, cJ0_isLatin1_aae02, 1, some .boolean, 0)
theorem ok_J0_isLatin1_aae02 : MOK mu_J0_isLatin1_aae02 0 := ⟨gj_728, gj_36, (by decide +kernel : plainFor yJ0_isLatin1_aae02 = true), ⟨(by decide +kernel : yJ0_isLatin1_aae02.cls ≠ "java/lang/invoke/MethodHandle"), (by decide +kernel : yJ0_isLatin1_aae02.cls ≠ "java/lang/invoke/VarHandle"), (by decide +kernel : (parseMethodDescriptor yJ0_isLatin1_aae02.desc).map (fun d => d.parameters.length) = some 0)⟩, Nat.le_of_ble_eq_true rfl⟩
abbrev mu_J3_checkIndex_8e157 : MD := (yJ3_checkIndex_8e157, cJ3_checkIndex_8e157, 3, some .int, 0)
theorem ok_J3_checkIndex_8e157 : MOK mu_J3_checkIndex_8e157 3 := ⟨gj_739, gj_40, (by decide +kernel : plainFor yJ3_checkIndex_8e157 = true), ⟨(by decide +kernel : yJ3_checkIndex_8e157.cls ≠ "java/lang/invoke/MethodHandle"), (by decide +kernel : yJ3_checkIndex_8e157.cls ≠ "java/lang/invoke/VarHandle"), (by decide +kernel : (parseMethodDescriptor yJ3_checkIndex_8e157.desc).map (fun d => d.parameters.length) = some 3)⟩, Nat.le_of_ble_eq_true rfl⟩
abbrev mu_J0_checkIndex_df160 : MD := (yJ0_checkIndex_df160, cJ0_checkIndex_df160, 2, none, 1)
theorem ok_J0_checkIndex_df160 : MOK mu_J0_checkIndex_df160 2 := ⟨gj_734, gj_36, (by decide +kernel : plainFor yJ0_checkIndex_df160 = true), ⟨(by decide +kernel : yJ0_checkIndex_df160.cls ≠ "java/lang/invoke/MethodHandle"), (by decide +kernel : yJ0_checkIndex_df160.cls ≠ "java/lang/invoke/VarHandle"), (by decide +kernel : (parseMethodDescriptor yJ0_checkIndex_df160.desc).map (fun d => d.parameters.length) = some 2)⟩, Nat.le_of_ble_eq_true rfl⟩
abbrev mu_J1_charAt_3b067 : MD := (yJ1_charAt_3b067, cJ1_charAt_3b067, 2, some .char, 2)
theorem ok_J1_charAt_3b067 : MOK mu_J1_charAt_3b067 2 := ⟨gj_731, gj_39, (by decide +kernel : plainFor yJ1_charAt_3b067 = true), ⟨(by decide +kernel : yJ1_charAt_3b067.cls ≠ "java/lang/invoke/MethodHandle"), (by decide +kernel : yJ1_charAt_3b067.cls ≠ "java/lang/invoke/VarHandle"), (by decide +kernel : (parseMethodDescriptor yJ1_charAt_3b067.desc).map (fun d => d.parameters.length) = some 2)⟩, Nat.le_of_ble_eq_true rfl⟩
abbrev mu_J0_charAt_5068e : MD := (yJ0_charAt_5068e, cJ0_charAt_5068e, 2, some .char, 3)
theorem ok_J0_charAt_5068e : MOK mu_J0_charAt_5068e 1 := ⟨gj_724, gj_36, (by decide +kernel : plainFor yJ0_charAt_5068e = true), ⟨(by decide +kernel : yJ0_charAt_5068e.cls ≠ "java/lang/invoke/MethodHandle"), (by decide +kernel : yJ0_charAt_5068e.cls ≠ "java/lang/invoke/VarHandle"), (by decide +kernel : (parseMethodDescriptor yJ0_charAt_5068e.desc).map (fun d => d.parameters.length) = some 1)⟩, Nat.le_of_ble_eq_true rfl⟩
theorem acJ {own : String} {idx : Nat} (h1 : Cond.methodLink own idx arraycopyName ∈ goodTbl) (h2 : Cond.native arraycopyName ∈ goodTbl) (h3 : Cond.static arraycopyName ∈ goodTbl) (h4 : Cond.initialized "java/lang/System" ∈ goodTbl) : ∀ z ∈ acWords own idx, z ∈ goodTbl := List.forall_mem_cons.mpr ⟨h1, all3 h2 h3 h4⟩
theorem cpy0 {f g : Nat → Int32} {n k : Nat} (h : k < n) : va_cpy f g (0 : Int32).toNatClampNeg (0 : Int32).toNatClampNeg n k = f k := by
  have e0 : (0 : Int32).toNatClampNeg = 0 := by decide
  rw [e0]
  unfold va_cpy
  rw [if_pos (by omega)]
  congr 1
  omega
theorem two_set {X : va_W} {p p' q : Nat × va_E} : ((X ++ [p]) ++ [q]).set X.length p' = X ++ [p', q] := by simp
/-! p36: the JDK's methods over lists of cells -/
theorem app_l {X Y : va_W} {i : Nat} {p : Nat × va_E} (h : X[i]? = some p) : (X ++ Y)[i]? = some p := by
  rw [List.getElem?_append_left (List.getElem?_eq_some_iff.mp h).1]; exact h
theorem app_r {X : va_W} {p : Nat × va_E} : (X ++ [p])[X.length]? = some p := by simp
theorem set_s {X : va_W} {i : Nat} {p0 p : Nat × va_E} (h : X[i]? = some p0) : (X.set i p)[i]? = some p := List.getElem?_set_self (List.getElem?_eq_some_iff.mp h).1
theorem set_n {X : va_W} {i j : Nat} {p q : Nat × va_E} (hne : i ≠ j) (h : X[j]? = some q) : (X.set i p)[j]? = some q := by
  rw [List.getElem?_set_ne hne]; exact h
theorem app_set {X : va_W} {p q : Nat × va_E} : (X ++ [p]).set X.length q = X ++ [q] := by simp
theorem set_app {X Y : va_W} {i : Nat} {p0 p q : Nat × va_E} (h : X[i]? = some p0) : (X.set i p ++ Y).set i q = (X ++ Y).set i q := by
  rw [← List.set_append_left _ _ (List.getElem?_eq_some_iff.mp h).1, List.set_set]
theorem cap16 : ∀ m, m < 16 → ((i32 m + 1 : Int32) - ((16 : Int32) >>> ((0 : Int32) &&& 31)) : Int32) ≤ 0 := by decide +kernel
theorem in16 : ∀ m, m < 16 → ¬ (i32 m < 0 ∨ 16 ≤ (i32 m).toNatClampNeg) := by decide +kernel
theorem cl17 : ∀ m, m < 17 → (i32 m).toNatClampNeg = m ∧ ¬ (i32 m - 0 < 0) ∧ (i32 m - 0).toNatClampNeg = m ∧ (0 : Int32) ≤ i32 m ∧ (i32 m = 16 → m = 16) := by decide +kernel
theorem mn17 : ∀ m, m < 17 → ¬ ((if (i32 m - 0) < (16 - 0 : Int32) then (i32 m - 0) else (16 - 0)) < 0) ∧ (if (i32 m - 0) < (16 - 0 : Int32) then (i32 m - 0) else (16 - 0)).toNatClampNeg = m := by decide +kernel
abbrev sbC (v x2 : Value) (c : Int32) : va_E := .inr (13, [v, .int 0, x2, .int c])
abbrev stC (v : Value) : va_E := .inr (12, [v, .int 0, .int 0, .int 0])
abbrev byC (w : Wd) (n : Nat) (f : Nat → Int32) : va_E := .inl (wcs w 17, n, .inl f)
section JD
variable {L : va_W} {i j k a v s n m : Nat} {x2 : Value} {f : Nat → Int32} {c : Int32}
theorem mj_isLatin1 {w : Wd} {F : Nat → Prop} (hFo : ∀ q, F q → own w q) {x0 x3 : Value} (he : L[i]? = some (a, .inr (13, [x0, .int 0, x2, x3]))) : MJ w mu_J5_isLatin1_aae02 F (0) (0) [.ref a] (L) (fun r L2 => r = some (.int 1) ∧ L2 = L) := by
  refine mj_of (lv := [(0, .ref a)]) ok_J5_isLatin1_aae02 rfl (Nat.le_of_ble_eq_true rfl) ?_
  refine ly_compact (pc := 0) hFo gj_794 dJ5_isLatin1_aae02_0 ?_
  refine ly_if_eq (pc := 3) dJ5_isLatin1_aae02_3 (tgt := 17) rfl (fun h => absurd h (by decide)) (fun _ => ?_)
  refine ly_aload_n (pc := 6) 0 rfl dJ5_isLatin1_aae02_6 rfl ?_
  refine ly_get (pc := 7) (ci := 13) (j := 1) rfl wsJ4 he (by decide) gj_803 rfl dJ5_isLatin1_aae02_7 ?_
  refine ly_if_ne (pc := 10) dJ5_isLatin1_aae02_10 (tgt := 17) rfl (fun h => absurd rfl h) (fun _ => ?_)
  refine ly_iconst (pc := 13) (v := 1) dJ5_isLatin1_aae02_13 (by decide) ?_
  refine ly_goto (pc := 14) dJ5_isLatin1_aae02_14 (tgt := 18) rfl ?_
  exact ly_zret ⟨rfl, rfl⟩ rfl (rfl) (rfl) (rfl) dJ5_isLatin1_aae02_18
theorem mj_canEncode {w : Wd} {F : Nat → Prop} (hFo : ∀ q, F q → own w q) (hc : ¬ 255 < c) : MJ w mu_J1_canEncode_fc78d F (0) (0) [.int c] (L) (fun r L2 => r = some (.int 1) ∧ L2 = L) := by
  refine mj_of (lv := [(0, .int c)]) ok_J1_canEncode_fc78d rfl (Nat.le_of_ble_eq_true rfl) ?_
  refine ly_iload_n (pc := 0) 0 rfl dJ1_canEncode_fc78d_0 rfl ?_
  refine ly_sipush (pc := 1) (v := 255) dJ1_canEncode_fc78d_1 (by decide) ?_
  refine ly_icmp_gt (pc := 4) dJ1_canEncode_fc78d_4 (tgt := 11) rfl (fun h => absurd h hc) (fun _ => ?_)
  refine ly_iconst (pc := 7) (v := 1) dJ1_canEncode_fc78d_7 (by decide) ?_
  refine ly_goto (pc := 8) dJ1_canEncode_fc78d_8 (tgt := 12) rfl ?_
  exact ly_zret ⟨rfl, rfl⟩ rfl (rfl) (rfl) (rfl) dJ1_canEncode_fc78d_12
theorem mj_ensure {w : Wd} {F : Nat → Prop} (hFo : ∀ q, F q → own w q) {x3 : Value} (he : L[i]? = some (a, .inr (13, [.ref v, .int 0, x2, x3]))) (hj : L[j]? = some (v, byC w 16 f)) (hc : c - ((16 : Int32) >>> (0 &&& 31)) ≤ 0) : MJ w mu_J5_ensureCapacityInternal_d00df F (0) (0) [.ref a, .int c] (L) (fun r L2 => r = none ∧ L2 = L) := by
  refine mj_of (lv := [(0, .ref a), (1, .int c)]) ok_J5_ensureCapacityInternal_d00df rfl (Nat.le_of_ble_eq_true rfl) ?_
  refine ly_aload_n (pc := 0) 0 rfl dJ5_ensureCapacityInternal_d00df_0 rfl ?_
  refine ly_get (pc := 1) (ci := 13) (j := 0) rfl wsJ4 he (by decide) gj_802 rfl dJ5_ensureCapacityInternal_d00df_1 ?_
  refine ly_alenB (pc := 4) hj (v := 16) (by decide) dJ5_ensureCapacityInternal_d00df_4 ?_
  refine ly_aload_n (pc := 5) 0 rfl dJ5_ensureCapacityInternal_d00df_5 rfl ?_
  refine ly_get (pc := 6) (ci := 13) (j := 1) rfl wsJ4 he (by decide) gj_803 rfl dJ5_ensureCapacityInternal_d00df_6 ?_
  refine ly_ishr (pc := 9) dJ5_ensureCapacityInternal_d00df_9 ?_
  refine ly_istore_n (pc := 10) (lv' := [(2, .int ((16 : Int32) >>> (0 &&& 31))), (0, .ref a), (1, .int c)]) dJ5_ensureCapacityInternal_d00df_10 rfl (ltb rfl) rfl ?_
  refine ly_iload_n (pc := 11) 2 rfl dJ5_ensureCapacityInternal_d00df_11 rfl ?_
  refine ly_iload_n (pc := 12) 0 rfl dJ5_ensureCapacityInternal_d00df_12 rfl ?_
  refine ly_isub (pc := 13) dJ5_ensureCapacityInternal_d00df_13 ?_
  refine ly_if_le (pc := 14) dJ5_ensureCapacityInternal_d00df_14 (tgt := 38) rfl (fun _ => ?_) (fun h => absurd hc h)
  exact ly_vret ⟨rfl, rfl⟩ rfl (rfl) (rfl) dJ5_ensureCapacityInternal_d00df_38
theorem mj_append5 {w : Wd} {F : Nat → Prop} (hFo : ∀ q, F q → own w q) (he : L[i]? = some (a, sbC (.ref v) x2 (i32 m))) (hj : L[j]? = some (v, byC w 16 f)) (hij : i ≠ j) (hm : m < 16) (hc : ¬ 255 < c) : MJ w mu_J5_append_3fe6f F (0) (0) [.ref a, .int c] (L) (fun r L2 => r = some (.ref a) ∧ L2 = (L.set i (a, sbC (.ref v) x2 (i32 m + 1))).set j (v, byC w 16 (upd f (i32 m).toNatClampNeg (vp_nar .byte c.toInt8.toInt32)))) := by
  refine mj_of (lv := [(0, .ref a), (1, .int c)]) ok_J5_append_3fe6f rfl (Nat.le_of_ble_eq_true rfl) ?_
  refine ly_aload_n (pc := 0) 0 rfl dJ5_append_3fe6f_0 rfl ?_
  refine ly_aload_n (pc := 1) 0 rfl dJ5_append_3fe6f_1 rfl ?_
  refine ly_get (pc := 2) (ci := 13) (j := 3) rfl wsJ4 he (by decide) gj_805 rfl dJ5_append_3fe6f_2 ?_
  refine ly_iconst (pc := 5) (v := 1) dJ5_append_3fe6f_5 (by decide) ?_
  refine ly_iadd (pc := 6) dJ5_append_3fe6f_6 ?_
  refine ly_callV (pc := 7) (As := [.int ((i32 m) + 1)]) (C := RJ4) hFo he rfl rfl (mj_ensure hFo he hj (cap16 m hm)) ok_J5_ensureCapacityInternal_d00df ⟨Nat.le_of_ble_eq_true rfl, Nat.le_of_ble_eq_true rfl⟩ gj_823 gj_825 (fun C0 => va_Nw.use rfl C0.2.2.2.2.2.2.2.2.2.2.2.2.2.2.2.1) rfl (rest := []) rfl (Nat.le_of_ble_eq_true rfl) (Nat.le_of_ble_eq_true rfl) (Nat.le_of_ble_eq_true rfl) dJ5_append_3fe6f_7 (fun r L2 h => ?_)
  rw [h.1, h.2]
  show LW w mu_J5_append_3fe6f _ F _ (L) _ _ [(0, .ref a), (1, .int c)] [] 10
  refine ly_aload_n (pc := 10) 0 rfl dJ5_append_3fe6f_10 rfl ?_
  refine ly_callV (pc := 11) (As := []) (C := RJ4) hFo he rfl rfl (mj_isLatin1 hFo he) ok_J5_isLatin1_aae02 ⟨Nat.le_of_ble_eq_true rfl, Nat.le_of_ble_eq_true rfl⟩ gj_852 gj_853 (fun C0 => C0.2.2.2.2.2.1 _ gj_855) rfl (rest := []) rfl (Nat.le_of_ble_eq_true rfl) (Nat.le_of_ble_eq_true rfl) (Nat.le_of_ble_eq_true rfl) dJ5_append_3fe6f_11 (fun r L2 h => ?_)
  rw [h.1, h.2]
  show LW w mu_J5_append_3fe6f _ F _ (L) _ _ [(0, .ref a), (1, .int c)] [.int 1] 14
  refine ly_if_eq (pc := 14) dJ5_append_3fe6f_14 (tgt := 45) rfl (fun h => absurd h (by decide)) (fun _ => ?_)
  refine ly_iload_n (pc := 17) 1 rfl dJ5_append_3fe6f_17 rfl ?_
  refine ly_callS (pc := 18) (As := [.int c]) hFo (mj_canEncode hFo hc) ok_J1_canEncode_fc78d ⟨Nat.le_of_ble_eq_true rfl, Nat.le_of_ble_eq_true rfl⟩ (all2 gj_857 gj_858) rfl (rest := []) rfl (Nat.le_of_ble_eq_true rfl) (Nat.le_of_ble_eq_true rfl) (Nat.le_of_ble_eq_true rfl) dJ5_append_3fe6f_18 (fun r L2 h => ?_)
  rw [h.1, h.2]
  show LW w mu_J5_append_3fe6f _ F _ (L) _ _ [(0, .ref a), (1, .int c)] [.int 1] 21
  refine ly_if_eq (pc := 21) dJ5_append_3fe6f_21 (tgt := 45) rfl (fun h => absurd h (by decide)) (fun _ => ?_)
  refine ly_aload_n (pc := 24) 0 rfl dJ5_append_3fe6f_24 rfl ?_
  refine ly_get (pc := 25) (ci := 13) (j := 0) rfl wsJ4 he (by decide) gj_802 rfl dJ5_append_3fe6f_25 ?_
  refine ly_aload_n (pc := 28) 0 rfl dJ5_append_3fe6f_28 rfl ?_
  refine ly_dup (pc := 29) dJ5_append_3fe6f_29 rfl ?_
  refine ly_get (pc := 30) (ci := 13) (j := 3) rfl wsJ4 he (by decide) gj_805 rfl dJ5_append_3fe6f_30 ?_
  refine ly_dup_x1 (pc := 33) dJ5_append_3fe6f_33 rfl rfl ?_
  refine ly_iconst (pc := 34) (v := 1) dJ5_append_3fe6f_34 (by decide) ?_
  refine ly_iadd (pc := 35) dJ5_append_3fe6f_35 ?_
  refine ly_put (pc := 36) (ci := 13) (j := 3) rfl wsJ4 tyJ4_ok nmJ4 he (by decide) gj_805 rfl (tyJ4_ok 3 (by decide)) rfl rfl (ltb rfl) dJ5_append_3fe6f_36 ?_
  show LW w mu_J5_append_3fe6f _ F _ (L.set i (a, sbC (.ref v) x2 (i32 m + 1))) _ _ [(0, .ref a), (1, .int c)] [.int (i32 m), .ref v] 39
  refine ly_iload_n (pc := 39) 1 rfl dJ5_append_3fe6f_39 rfl ?_
  refine ly_i2b (pc := 40) (v := c.toInt8.toInt32) dJ5_append_3fe6f_40 rfl ?_
  refine ly_bast (pc := 41) (i := j) (set_n hij hj) (in16 m hm) dJ5_append_3fe6f_41 ?_
  show LW w mu_J5_append_3fe6f _ F _ ((L.set i (a, sbC (.ref v) x2 (i32 m + 1))).set j (v, byC w 16 (upd f (i32 m).toNatClampNeg (vp_nar .byte c.toInt8.toInt32)))) _ _ [(0, .ref a), (1, .int c)] [] 42
  refine ly_goto (pc := 42) dJ5_append_3fe6f_42 (tgt := 75) rfl ?_
  refine ly_aload_n (pc := 75) 0 rfl dJ5_append_3fe6f_75 rfl ?_
  exact ly_aret ⟨rfl, rfl⟩ rfl (Or.inl ⟨_, rfl⟩) (rfl) (rfl) dJ5_append_3fe6f_76
theorem mj_append {w : Wd} {F : Nat → Prop} (hFo : ∀ q, F q → own w q) (he : L[i]? = some (a, sbC (.ref v) x2 (i32 m))) (hj : L[j]? = some (v, byC w 16 f)) (hij : i ≠ j) (hm : m < 16) (hc : ¬ 255 < c) : MJ w mu_J4_append_cf468 F (0) (0) [.ref a, .int c] (L) (fun r L2 => r = some (.ref a) ∧ L2 = (L.set i (a, sbC (.ref v) x2 (i32 m + 1))).set j (v, byC w 16 (upd f (i32 m).toNatClampNeg (vp_nar .byte c.toInt8.toInt32)))) := by
  refine mj_of (lv := [(0, .ref a), (1, .int c)]) ok_J4_append_cf468 rfl (Nat.le_of_ble_eq_true rfl) ?_
  refine ly_aload_n (pc := 0) 0 rfl dJ4_append_cf468_0 rfl ?_
  refine ly_iload_n (pc := 1) 1 rfl dJ4_append_cf468_1 rfl ?_
  refine ly_callSU (pc := 2) (As := [.int c]) hFo he rfl (mj_append5 hFo he hj hij hm hc) ok_J5_append_3fe6f (by decide) ⟨Nat.le_of_ble_eq_true rfl, Nat.le_of_ble_eq_true rfl⟩ gj_820 gj_942 gj_814 gj_821 rfl (rest := []) rfl (Nat.le_of_ble_eq_true rfl) (Nat.le_of_ble_eq_true rfl) (Nat.le_of_ble_eq_true rfl) dJ4_append_cf468_2 (fun r L2 h => ?_)
  rw [h.1, h.2]
  show LW w mu_J4_append_cf468 _ F _ ((L.set i (a, sbC (.ref v) x2 (i32 m + 1))).set j (v, byC w 16 (upd f (i32 m).toNatClampNeg (vp_nar .byte c.toInt8.toInt32)))) _ _ [(0, .ref a), (1, .int c)] [.ref a] 5
  refine ly_pop (pc := 5) dJ4_append_cf468_5 rfl ?_
  refine ly_aload_n (pc := 6) 0 rfl dJ4_append_cf468_6 rfl ?_
  exact ly_aret ⟨rfl, rfl⟩ rfl (Or.inl ⟨_, rfl⟩) (rfl) (rfl) dJ4_append_cf468_7
theorem mj_init5 {w : Wd} {F : Nat → Prop} (hFo : ∀ q, F q → own w q) (he : L[i]? = some (a, .inr (13, [.null, .int 0, .int 0, .int 0]))) : MJ w mu_J5_init_d00df F (1) (16) [.ref a, .int 16] (L) (fun r L2 => ∃ q, r = none ∧ L2 = (L ++ [(q, byC w 16 (fun _ => 0))]).set i (a, sbC (.ref q) (.int 0) 0)) := by
  refine mj_of (lv := [(0, .ref a), (1, .int 16)]) ok_J5_init_d00df rfl (Nat.le_of_ble_eq_true rfl) ?_
  refine ly_aload_n (pc := 0) 0 rfl dJ5_init_d00df_0 rfl ?_
  refine ly_objInit (pc := 1) gj_793 gj_47 gj_48 (Nat.le_of_ble_eq_true rfl) (Nat.le_of_ble_eq_true rfl) dJ5_init_d00df_1 ?_
  refine ly_compact (pc := 4) hFo gj_794 dJ5_init_d00df_4 ?_
  refine ly_if_eq (pc := 7) dJ5_init_d00df_7 (tgt := 25) rfl (fun h => absurd h (by decide)) (fun _ => ?_)
  refine ly_aload_n (pc := 10) 0 rfl dJ5_init_d00df_10 rfl ?_
  refine ly_iload_n (pc := 11) 1 rfl dJ5_init_d00df_11 rfl ?_
  refine ly_newB (pc := 12) (N' := 16) gj_815 (by decide) (by decide) (Nat.le_of_ble_eq_true rfl) (Nat.le_of_ble_eq_true rfl) (Nat.le_of_ble_eq_true rfl) dJ5_init_d00df_12 (fun q => ?_)
  refine ly_put (pc := 14) (ci := 13) (j := 0) rfl wsJ4 tyJ4_ok nmJ4 (app_l he) (by decide) gj_802 rfl (tyJ4_ok 0 (by decide)) rfl rfl (ltb rfl) dJ5_init_d00df_14 ?_
  show LW w mu_J5_init_d00df _ F _ ((L ++ [(q, byC w 16 (fun _ => 0))]).set i (a, sbC (.ref q) (.int 0) 0)) _ _ [(0, .ref a), (1, .int 16)] [] 17
  refine ly_aload_n (pc := 17) 0 rfl dJ5_init_d00df_17 rfl ?_
  refine ly_iconst (pc := 18) (v := 0) dJ5_init_d00df_18 (by decide) ?_
  refine ly_put (pc := 19) (ci := 13) (j := 1) rfl wsJ4 tyJ4_ok nmJ4 (set_s (app_l he)) (by decide) gj_803 rfl (tyJ4_ok 1 (by decide)) rfl rfl (ltb rfl) dJ5_init_d00df_19 ?_
  refine ly_goto (pc := 22) dJ5_init_d00df_22 (tgt := 38) rfl ?_
  exact ly_vret ⟨q, rfl, List.set_set ..⟩ rfl (rfl) (rfl) dJ5_init_d00df_38
theorem mj_init {w : Wd} {F : Nat → Prop} (hFo : ∀ q, F q → own w q) (he : L[i]? = some (a, .inr (13, [.null, .int 0, .int 0, .int 0]))) : MJ w mu_J4_init_da8c8 F (1) (16) [.ref a] (L) (fun r L2 => ∃ q, r = none ∧ L2 = (L ++ [(q, byC w 16 (fun _ => 0))]).set i (a, sbC (.ref q) (.int 0) 0)) := by
  refine mj_of (lv := [(0, .ref a)]) ok_J4_init_da8c8 rfl (Nat.le_of_ble_eq_true rfl) ?_
  refine ly_aload_n (pc := 0) 0 rfl dJ4_init_da8c8_0 rfl ?_
  refine ly_bipush (pc := 1) (v := 16) dJ4_init_da8c8_1 (by decide) ?_
  refine ly_callI (pc := 3) (As := [.int 16]) hFo (mj_init5 hFo he) ok_J5_init_d00df rfl rfl ⟨Nat.le_of_ble_eq_true rfl, Nat.le_of_ble_eq_true rfl⟩ (all2 gj_790 gj_791) rfl (rest := []) rfl (Nat.le_of_ble_eq_true rfl) (Nat.le_of_ble_eq_true rfl) (Nat.le_of_ble_eq_true rfl) dJ4_init_da8c8_3 (fun r L2 h => ?_)
  obtain ⟨q, h1, h2⟩ := h; rw [h1, h2]
  show LW w mu_J4_init_da8c8 _ F _ ((L ++ [(q, byC w 16 (fun _ => 0))]).set i (a, sbC (.ref q) (.int 0) 0)) _ _ [(0, .ref a)] [] 6
  exact ly_vret ⟨q, rfl, rfl⟩ rfl (rfl) (rfl) dJ4_init_da8c8_6
theorem mj_getValue {w : Wd} {F : Nat → Prop} (hFo : ∀ q, F q → own w q) {x1 x3 : Value} (he : L[i]? = some (a, .inr (13, [.ref v, x1, x2, x3]))) : MJ w mu_J5_getValue_6d5f1 F (0) (0) [.ref a] (L) (fun r L2 => r = some (.ref v) ∧ L2 = L) := by
  refine mj_of (lv := [(0, .ref a)]) ok_J5_getValue_6d5f1 rfl (Nat.le_of_ble_eq_true rfl) ?_
  refine ly_aload_n (pc := 0) 0 rfl dJ5_getValue_6d5f1_0 rfl ?_
  refine ly_get (pc := 1) (ci := 13) (j := 0) rfl wsJ4 he (by decide) gj_802 rfl dJ5_getValue_6d5f1_1 ?_
  exact ly_aret ⟨rfl, rfl⟩ rfl (Or.inr ⟨_, rfl⟩) (rfl) (rfl) dJ5_getValue_6d5f1_4
theorem mj_length5 {w : Wd} {F : Nat → Prop} (hFo : ∀ q, F q → own w q) {x0 x1 : Value} (he : L[i]? = some (a, .inr (13, [x0, x1, x2, .int c]))) : MJ w mu_J5_length_8abf5 F (0) (0) [.ref a] (L) (fun r L2 => r = some (.int c) ∧ L2 = L) := by
  refine mj_of (lv := [(0, .ref a)]) ok_J5_length_8abf5 rfl (Nat.le_of_ble_eq_true rfl) ?_
  refine ly_aload_n (pc := 0) 0 rfl dJ5_length_8abf5_0 rfl ?_
  refine ly_get (pc := 1) (ci := 13) (j := 3) rfl wsJ4 he (by decide) gj_805 rfl dJ5_length_8abf5_1 ?_
  exact ly_iret ⟨rfl, rfl⟩ rfl (rfl) (rfl) dJ5_length_8abf5_4
theorem mj_length4 {w : Wd} {F : Nat → Prop} (hFo : ∀ q, F q → own w q) {x0 x1 : Value} (he : L[i]? = some (a, .inr (13, [x0, x1, x2, .int c]))) : MJ w mu_J4_length_8abf5 F (0) (0) [.ref a] (L) (fun r L2 => r = some (.int c) ∧ L2 = L) := by
  refine mj_of (lv := [(0, .ref a)]) ok_J4_length_8abf5 rfl (Nat.le_of_ble_eq_true rfl) ?_
  refine ly_aload_n (pc := 0) 0 rfl dJ4_length_8abf5_0 rfl ?_
  refine ly_callSU (pc := 1) (As := []) hFo he rfl (mj_length5 hFo he) ok_J5_length_8abf5 (by decide) ⟨Nat.le_of_ble_eq_true rfl, Nat.le_of_ble_eq_true rfl⟩ gj_909 gj_905 gj_814 gj_904 rfl (rest := []) rfl (Nat.le_of_ble_eq_true rfl) (Nat.le_of_ble_eq_true rfl) (Nat.le_of_ble_eq_true rfl) dJ4_length_8abf5_1 (fun r L2 h => ?_)
  rw [h.1, h.2]
  show LW w mu_J4_length_8abf5 _ F _ (L) _ _ [(0, .ref a)] [.int c] 4
  exact ly_iret ⟨rfl, rfl⟩ rfl (rfl) (rfl) dJ4_length_8abf5_4
theorem mj_checkLength {w : Wd} {F : Nat → Prop} (hFo : ∀ q, F q → own w q) {x y : Int32} (hx : x ≤ y) : MJ w mu_J7_checkLength_df160 F (0) (0) [.int x, .int y] (L) (fun r L2 => r = none ∧ L2 = L) := by
  refine mj_of (lv := [(0, .int x), (1, .int y)]) ok_J7_checkLength_df160 rfl (Nat.le_of_ble_eq_true rfl) ?_
  refine ly_iload_n (pc := 0) 1 rfl dJ7_checkLength_df160_0 rfl ?_
  refine ly_iload_n (pc := 1) 0 rfl dJ7_checkLength_df160_1 rfl ?_
  refine ly_icmp_ge (pc := 2) dJ7_checkLength_df160_2 (tgt := 37) rfl (fun _ => ?_) (fun h => absurd hx h)
  exact ly_vret ⟨rfl, rfl⟩ rfl (rfl) (rfl) dJ7_checkLength_df160_37
theorem mj_copyOfRangeByte {w : Wd} {F : Nat → Prop} (hFo : ∀ q, F q → own w q) (hj : L[j]? = some (v, byC w 16 f)) (hn : n < 17) (hfit : ∀ i, i < 16 → fits .byte (.int (f i)) = true) : MJ w mu_J7_copyOfRangeByte_39247 F (1) (n) [.ref v, .int 0, .int (i32 n)] (L) (fun r L2 => ∃ q g, (∀ k, k < n → g k = f k) ∧ r = some (.ref q) ∧ L2 = L ++ [(q, byC w n g)]) := by
  refine mj_of (lv := [(0, .ref v), (1, .int 0), (2, .int (i32 n))]) ok_J7_copyOfRangeByte_39247 rfl (Nat.le_of_ble_eq_true rfl) ?_
  refine ly_iload_n (pc := 0) 1 rfl dJ7_copyOfRangeByte_39247_0 rfl ?_
  refine ly_iload_n (pc := 1) 2 rfl dJ7_copyOfRangeByte_39247_1 rfl ?_
  refine ly_callS (pc := 2) (As := [.int 0, .int (i32 n)]) hFo (mj_checkLength hFo (cl17 n hn).2.2.2.1) ok_J7_checkLength_df160 ⟨Nat.le_of_ble_eq_true rfl, Nat.le_of_ble_eq_true rfl⟩ (all2 gj_918 gj_919) rfl (rest := []) rfl (Nat.le_of_ble_eq_true rfl) (Nat.le_of_ble_eq_true rfl) (Nat.le_of_ble_eq_true rfl) dJ7_copyOfRangeByte_39247_2 (fun r L2 h => ?_)
  rw [h.1, h.2]
  show LW w mu_J7_copyOfRangeByte_39247 _ F _ (L) _ _ [(0, .ref v), (1, .int 0), (2, .int (i32 n))] [] 5
  refine ly_iload_n (pc := 5) 2 rfl dJ7_copyOfRangeByte_39247_5 rfl ?_
  refine ly_iload_n (pc := 6) 1 rfl dJ7_copyOfRangeByte_39247_6 rfl ?_
  refine ly_isub (pc := 7) dJ7_copyOfRangeByte_39247_7 ?_
  refine ly_istore_n (pc := 8) (lv' := [(3, .int ((i32 n) - 0)), (0, .ref v), (1, .int 0), (2, .int (i32 n))]) dJ7_copyOfRangeByte_39247_8 rfl (ltb rfl) rfl ?_
  refine ly_iload_n (pc := 9) 0 rfl dJ7_copyOfRangeByte_39247_9 rfl ?_
  refine ly_newB (pc := 10) (N' := n) gj_815 (cl17 n hn).2.1 (cl17 n hn).2.2.1 (by omega) (Nat.le_of_ble_eq_true rfl) (by show 0 + 0 + n ≤ n; omega) dJ7_copyOfRangeByte_39247_10 (fun q => ?_)
  refine ly_astore (pc := 12) (lv' := [(4, .ref q), (3, .int ((i32 n) - 0)), (0, .ref v), (1, .int 0), (2, .int (i32 n))]) dJ7_copyOfRangeByte_39247_12 (ltb rfl) rfl ?_
  refine ly_aload_n (pc := 14) 2 rfl dJ7_copyOfRangeByte_39247_14 rfl ?_
  refine ly_iload_n (pc := 15) 3 rfl dJ7_copyOfRangeByte_39247_15 rfl ?_
  refine ly_aload (pc := 16) 0 rfl dJ7_copyOfRangeByte_39247_16 ?_
  refine ly_iconst (pc := 18) (v := 0) dJ7_copyOfRangeByte_39247_18 (by decide) ?_
  refine ly_aload_n (pc := 19) 2 rfl dJ7_copyOfRangeByte_39247_19 rfl ?_
  refine ly_alenB (pc := 20) (app_l hj) (v := 16) (by decide) dJ7_copyOfRangeByte_39247_20 ?_
  refine ly_iload_n (pc := 21) 3 rfl dJ7_copyOfRangeByte_39247_21 rfl ?_
  refine ly_isub (pc := 22) dJ7_copyOfRangeByte_39247_22 ?_
  refine ly_iload_n (pc := 23) 1 rfl dJ7_copyOfRangeByte_39247_23 rfl ?_
  refine ly_min (pc := 24) gj_850 gj_569 gj_33 gj_570 (Nat.le_of_ble_eq_true rfl) (Nat.le_of_ble_eq_true rfl) (Nat.le_of_ble_eq_true rfl) (by show 0 + 0 + n ≤ n; omega) dJ7_copyOfRangeByte_39247_24 ?_
  refine ly_copyB (pc := 27) (i := j) (j := L.length) (app_l hj) app_r (acJ (gj_851) (gj_393) (gj_392) (gj_32)) (by decide) (by decide) (mn17 n hn).1 (by rw [(mn17 n hn).2]; show 0 + n ≤ 16; omega) (by rw [(mn17 n hn).2]; show 0 + n ≤ n; omega) hfit (Nat.le_of_ble_eq_true rfl) (Nat.le_of_ble_eq_true rfl) dJ7_copyOfRangeByte_39247_27 ?_
  rw [app_set, (mn17 n hn).2]
  show LW w mu_J7_copyOfRangeByte_39247 _ F _ (L ++ [(q, byC w n (va_cpy f (fun _ => 0) (0 : Int32).toNatClampNeg (0 : Int32).toNatClampNeg n))]) _ _ [(4, .ref q), (3, .int ((i32 n) - 0)), (0, .ref v), (1, .int 0), (2, .int (i32 n))] [] 30
  refine ly_aload (pc := 30) 0 rfl dJ7_copyOfRangeByte_39247_30 ?_
  exact ly_aret ⟨q, _, fun k hk => by rw [cpy0 hk], rfl, rfl⟩ rfl (Or.inr ⟨_, rfl⟩) (rfl) (by omega) dJ7_copyOfRangeByte_39247_32
theorem mj_copyOfRange {w : Wd} {F : Nat → Prop} (hFo : ∀ q, F q → own w q) (hj : L[j]? = some (v, byC w 16 f)) (hn : n < 17) (hfit : ∀ i, i < 16 → fits .byte (.int (f i)) = true) : MJ w mu_J7_copyOfRange_39247 F (1) (n) [.ref v, .int 0, .int (i32 n)] (L) (fun r L2 => ∃ q g, (∀ k, k < n → g k = f k) ∧ r = some (.ref q) ∧ L2 = L ++ [(q, byC w n g)]) := by
  refine mj_of (lv := [(0, .ref v), (1, .int 0), (2, .int (i32 n))]) ok_J7_copyOfRange_39247 rfl (Nat.le_of_ble_eq_true rfl) ?_
  refine ly_iload_n (pc := 0) 1 rfl dJ7_copyOfRange_39247_0 rfl ?_
  refine ly_if_ne (pc := 1) dJ7_copyOfRange_39247_1 (tgt := 10) rfl (fun h => absurd rfl h) (fun _ => ?_)
  refine ly_iload_n (pc := 4) 2 rfl dJ7_copyOfRange_39247_4 rfl ?_
  refine ly_aload_n (pc := 5) 0 rfl dJ7_copyOfRange_39247_5 rfl ?_
  refine ly_alenB (pc := 6) hj (v := 16) (by decide) dJ7_copyOfRange_39247_6 ?_
  refine ly_icmp_eq (pc := 7) dJ7_copyOfRange_39247_7 (tgt := 17) rfl (fun h => ?_) (fun _ => ?_)
  · have hn16 : n = 16 := (cl17 n hn).2.2.2.2 h
    subst hn16
    refine ly_aload_n (pc := 17) 0 rfl dJ7_copyOfRange_39247_17 rfl ?_
    refine ly_cloneB (pc := 18) (i := j) hj gj_843 gj_844 gj_845 gj_846 gj_847 hfit (Nat.le_of_ble_eq_true rfl) (Nat.le_of_ble_eq_true rfl) (Nat.le_of_ble_eq_true rfl) (Nat.le_of_ble_eq_true rfl) dJ7_copyOfRange_39247_18 (fun q => ?_)
    refine ly_castB (pc := 21) app_r gj_849 dJ7_copyOfRange_39247_21 ?_
    exact ly_aret ⟨q, f, fun _ _ => rfl, rfl, rfl⟩ rfl (Or.inr ⟨_, rfl⟩) (rfl) (rfl) dJ7_copyOfRange_39247_24
  · refine ly_aload_n (pc := 10) 0 rfl dJ7_copyOfRange_39247_10 rfl ?_
    refine ly_iload_n (pc := 11) 1 rfl dJ7_copyOfRange_39247_11 rfl ?_
    refine ly_iload_n (pc := 12) 2 rfl dJ7_copyOfRange_39247_12 rfl ?_
    refine ly_callS (pc := 13) (As := [.ref v, .int 0, .int (i32 n)]) hFo (mj_copyOfRangeByte hFo hj hn hfit) ok_J7_copyOfRangeByte_39247 ⟨Nat.le_of_ble_eq_true rfl, Nat.le_of_ble_eq_true rfl⟩ (all2 gj_915 gj_916) rfl (rest := []) rfl (Nat.le_of_ble_eq_true rfl) (Nat.le_of_ble_eq_true rfl) (by show 0 + n ≤ n; omega) dJ7_copyOfRange_39247_13 (fun r L2 h => ?_)
    obtain ⟨q, g, hg, h1, h2⟩ := h; rw [h1, h2]
    show LW w mu_J7_copyOfRange_39247 _ F _ (L ++ [(q, byC w n g)]) _ _ [(0, .ref v), (1, .int 0), (2, .int (i32 n))] [.ref q] 16
    exact ly_aret ⟨q, g, hg, rfl, rfl⟩ rfl (Or.inr ⟨_, rfl⟩) (rfl) (by omega) dJ7_copyOfRange_39247_16
theorem mj_initS2 {w : Wd} {F : Nat → Prop} (hFo : ∀ q, F q → own w q) (hs : L[k]? = some (s, stC .null)) (he : L[i]? = some (a, sbC (.ref v) x2 (i32 n))) (hj : L[j]? = some (v, byC w 16 f)) (hki : k ≠ i) (hkj : k ≠ j) (hn : n < 17) (hfit : ∀ i, i < 16 → fits .byte (.int (f i)) = true) : MJ w mu_J0_init_db425 F (1) (n) [.ref s, .ref a, .null] (L) (fun r L2 => ∃ q g, (∀ k, k < n → g k = f k) ∧ r = none ∧ L2 = (L ++ [(q, byC w n g)]).set k (s, stC (.ref q))) := by
  refine mj_of (lv := [(0, .ref s), (1, .ref a), (2, .null)]) ok_J0_init_db425 rfl (Nat.le_of_ble_eq_true rfl) ?_
  refine ly_aload_n (pc := 0) 0 rfl dJ0_init_db425_0 rfl ?_
  refine ly_objInit (pc := 1) gj_897 gj_47 gj_48 (Nat.le_of_ble_eq_true rfl) (Nat.le_of_ble_eq_true rfl) dJ0_init_db425_1 ?_
  refine ly_aload_n (pc := 4) 1 rfl dJ0_init_db425_4 rfl ?_
  refine ly_callV (pc := 5) (As := []) (C := RJ4) hFo he rfl rfl (mj_getValue hFo he) ok_J5_getValue_6d5f1 ⟨Nat.le_of_ble_eq_true rfl, Nat.le_of_ble_eq_true rfl⟩ gj_898 gj_899 (fun C0 => C0.2.2.2.2.2.1 _ gj_901) rfl (rest := []) rfl (Nat.le_of_ble_eq_true rfl) (Nat.le_of_ble_eq_true rfl) (by show 0 + 0 ≤ n; omega) dJ0_init_db425_5 (fun r L2 h => ?_)
  rw [h.1, h.2]
  show LW w mu_J0_init_db425 _ F _ (L) _ _ [(0, .ref s), (1, .ref a), (2, .null)] [.ref v] 8
  refine ly_astore_n (pc := 8) (lv' := [(3, .ref v), (0, .ref s), (1, .ref a), (2, .null)]) dJ0_init_db425_8 rfl (ltb rfl) rfl ?_
  refine ly_aload_n (pc := 9) 2 rfl dJ0_init_db425_9 rfl ?_
  refine ly_callO (pc := 10) (x := yJ5_length_8abf5) (As := []) (C := RJ4) hFo he rfl rfl (mj_length4 hFo he) ok_J4_length_8abf5 gj_910 ⟨by decide +kernel, by decide +kernel, by decide +kernel⟩ ⟨Nat.le_of_ble_eq_true rfl, Nat.le_of_ble_eq_true rfl⟩ gj_903 gj_905 gj_904 gj_906 gj_907 rfl (rest := []) rfl (Nat.le_of_ble_eq_true rfl) (Nat.le_of_ble_eq_true rfl) (by show 0 + 0 + 0 ≤ n; omega) dJ0_init_db425_10 (fun r L2 h => ?_)
  rw [h.1, h.2]
  show LW w mu_J0_init_db425 _ F _ (L) _ _ [(3, .ref v), (0, .ref s), (1, .ref a), (2, .null)] [.int (i32 n)] 13
  refine ly_istore (pc := 13) (lv' := [(4, .int (i32 n)), (3, .ref v), (0, .ref s), (1, .ref a), (2, .null)]) dJ0_init_db425_13 (ltb rfl) rfl ?_
  refine ly_aload_n (pc := 15) 3 rfl dJ0_init_db425_15 rfl ?_
  refine ly_callV (pc := 16) (As := []) (C := RJ4) hFo he rfl rfl (mj_isLatin1 hFo he) ok_J5_isLatin1_aae02 ⟨Nat.le_of_ble_eq_true rfl, Nat.le_of_ble_eq_true rfl⟩ gj_911 gj_853 (fun C0 => C0.2.2.2.2.2.1 _ gj_855) rfl (rest := []) rfl (Nat.le_of_ble_eq_true rfl) (Nat.le_of_ble_eq_true rfl) (by show 0 + 0 + 0 + 0 ≤ n; omega) dJ0_init_db425_16 (fun r L2 h => ?_)
  rw [h.1, h.2]
  show LW w mu_J0_init_db425 _ F _ (L) _ _ [(4, .int (i32 n)), (3, .ref v), (0, .ref s), (1, .ref a), (2, .null)] [.int 1] 19
  refine ly_if_eq (pc := 19) dJ0_init_db425_19 (tgt := 41) rfl (fun h => absurd h (by decide)) (fun _ => ?_)
  refine ly_aload_n (pc := 22) 2 rfl dJ0_init_db425_22 rfl ?_
  refine ly_iconst (pc := 23) (v := 0) dJ0_init_db425_23 (by decide) ?_
  refine ly_putF (pc := 24) (ci := 12) (j := 1) rfl wsJ0 tyJ0_ok nmJ0 hs (by decide) gj_932 rfl rfl rfl (tyJ0_ok 1 (by decide)) rfl rfl (ltb rfl) dJ0_init_db425_24 ?_
  show LW w mu_J0_init_db425 _ F _ (L.set k (s, stC .null)) _ _ [(4, .int (i32 n)), (3, .ref v), (0, .ref s), (1, .ref a), (2, .null)] [] 27
  refine ly_aload_n (pc := 27) 2 rfl dJ0_init_db425_27 rfl ?_
  refine ly_aload_n (pc := 28) 1 rfl dJ0_init_db425_28 rfl ?_
  refine ly_iconst (pc := 29) (v := 0) dJ0_init_db425_29 (by decide) ?_
  refine ly_iload (pc := 30) 0 rfl dJ0_init_db425_30 ?_
  refine ly_callS (pc := 32) (As := [.ref v, .int 0, .int (i32 n)]) hFo (mj_copyOfRange hFo (set_n hkj hj) hn hfit) ok_J7_copyOfRange_39247 ⟨Nat.le_of_ble_eq_true rfl, Nat.le_of_ble_eq_true rfl⟩ (all2 gj_912 gj_913) rfl (rest := [.ref s]) rfl (Nat.le_of_ble_eq_true rfl) (Nat.le_of_ble_eq_true rfl) (by show 0 + 0 + 0 + 0 + n ≤ n; omega) dJ0_init_db425_32 (fun r L2 h => ?_)
  obtain ⟨q, g, hg, h1, h2⟩ := h; rw [h1, h2]
  show LW w mu_J0_init_db425 _ F _ (L.set k (s, stC .null) ++ [(q, byC w n g)]) _ _ [(4, .int (i32 n)), (3, .ref v), (0, .ref s), (1, .ref a), (2, .null)] [.ref q, .ref s] 35
  refine ly_putF (pc := 35) (ci := 12) (j := 0) rfl wsJ0 tyJ0_ok nmJ0 (app_l (set_s hs)) (by decide) gj_931 rfl rfl rfl (tyJ0_ok 0 (by decide)) rfl rfl (ltb rfl) dJ0_init_db425_35 ?_
  refine ly_goto (pc := 38) dJ0_init_db425_38 (tgt := 97) rfl ?_
  exact ly_vret ⟨q, g, hg, rfl, set_app hs⟩ rfl (rfl) (by omega) dJ0_init_db425_97
theorem mj_initS {w : Wd} {F : Nat → Prop} (hFo : ∀ q, F q → own w q) (hs : L[k]? = some (s, stC .null)) (he : L[i]? = some (a, sbC (.ref v) x2 (i32 n))) (hj : L[j]? = some (v, byC w 16 f)) (hki : k ≠ i) (hkj : k ≠ j) (hn : n < 17) (hfit : ∀ i, i < 16 → fits .byte (.int (f i)) = true) : MJ w mu_J0_init_81219 F (1) (n) [.ref s, .ref a] (L) (fun r L2 => ∃ q g, (∀ k, k < n → g k = f k) ∧ r = none ∧ L2 = (L ++ [(q, byC w n g)]).set k (s, stC (.ref q))) := by
  refine mj_of (lv := [(0, .ref s), (1, .ref a)]) ok_J0_init_81219 rfl (Nat.le_of_ble_eq_true rfl) ?_
  refine ly_aload_n (pc := 0) 0 rfl dJ0_init_81219_0 rfl ?_
  refine ly_aload_n (pc := 1) 1 rfl dJ0_init_81219_1 rfl ?_
  refine ly_null (pc := 2) dJ0_init_81219_2 ?_
  refine ly_callI (pc := 3) (As := [.ref a, .null]) hFo (mj_initS2 hFo hs he hj hki hkj hn hfit) ok_J0_init_db425 rfl rfl ⟨Nat.le_of_ble_eq_true rfl, Nat.le_of_ble_eq_true rfl⟩ (all2 gj_894 gj_895) rfl (rest := []) rfl (Nat.le_of_ble_eq_true rfl) (Nat.le_of_ble_eq_true rfl) (by show 0 + n ≤ n; omega) dJ0_init_81219_3 (fun r L2 h => ?_)
  obtain ⟨q, g, hg, h1, h2⟩ := h; rw [h1, h2]
  show LW w mu_J0_init_81219 _ F _ ((L ++ [(q, byC w n g)]).set k (s, stC (.ref q))) _ _ [(0, .ref s), (1, .ref a)] [] 6
  exact ly_vret ⟨q, g, hg, rfl, rfl⟩ rfl (rfl) (by omega) dJ0_init_81219_6
theorem mj_toString {w : Wd} {F : Nat → Prop} (hFo : ∀ q, F q → own w q) (he : L[i]? = some (a, sbC (.ref v) x2 (i32 n))) (hj : L[j]? = some (v, byC w 16 f)) (hn : n < 17) (hfit : ∀ i, i < 16 → fits .byte (.int (f i)) = true) : MJ w mu_J4_toString_0e30d F (2) (4 + n) [.ref a] (L) (fun r L2 => ∃ s q g, (∀ k, k < n → g k = f k) ∧ r = some (.ref s) ∧ L2 = L ++ [(s, stC (.ref q)), (q, byC w n g)]) := by
  refine mj_of (lv := [(0, .ref a)]) ok_J4_toString_0e30d rfl (Nat.le_of_ble_eq_true rfl) ?_
  refine ly_new (pc := 0) (ci := 12) (fs := [.null, .int 0, .int 0, .int 0]) rfl wsJ0 tyJ0_ok gj_889 gj_890 gj_36 (fun j hj => by rcases j with _ | _ | _ | _ | j <;> first | rfl | omega) (Nat.le_of_ble_eq_true rfl) (by show 0 + 4 ≤ 4 + n; omega) dJ4_toString_0e30d_0 (fun s => ?_)
  refine ly_dup (pc := 3) dJ4_toString_0e30d_3 rfl ?_
  refine ly_aload_n (pc := 4) 0 rfl dJ4_toString_0e30d_4 rfl ?_
  have li : i < L.length := (List.getElem?_eq_some_iff.mp he).1
  have lj : j < L.length := (List.getElem?_eq_some_iff.mp hj).1
  refine ly_callI (pc := 5) (As := [.ref a]) hFo (mj_initS (k := L.length) hFo app_r (app_l he) (app_l hj) (by omega) (by omega) hn hfit) ok_J0_init_81219 rfl rfl ⟨Nat.le_of_ble_eq_true rfl, Nat.le_of_ble_eq_true rfl⟩ (all2 gj_891 gj_892) rfl (rest := [.ref s]) rfl (Nat.le_of_ble_eq_true rfl) (Nat.le_of_ble_eq_true rfl) (by show 0 + 4 + n ≤ 4 + n; omega) dJ4_toString_0e30d_5 (fun r L2 h => ?_)
  obtain ⟨q, g, hg, h1, h2⟩ := h; rw [h1, h2, two_set]
  show LW w mu_J4_toString_0e30d _ F _ (L ++ [(s, stC (.ref q)), (q, byC w n g)]) _ _ [(0, .ref a)] [.ref s] 8
  exact ly_aret ⟨s, q, g, hg, rfl, rfl⟩ rfl (Or.inl ⟨_, rfl⟩) (rfl) (by omega) dJ4_toString_0e30d_8
theorem mj_coder {w : Wd} {F : Nat → Prop} (hFo : ∀ q, F q → own w q) {x0 x3 : Value} (hs : L[k]? = some (s, .inr (12, [x0, .int 0, x2, x3]))) : MJ w mu_J0_coder_7d493 F (0) (0) [.ref s] (L) (fun r L2 => r = some (.int 0) ∧ L2 = L) := by
  refine mj_of (lv := [(0, .ref s)]) ok_J0_coder_7d493 rfl (Nat.le_of_ble_eq_true rfl) ?_
  refine ly_compact (pc := 0) hFo gj_719 dJ0_coder_7d493_0 ?_
  refine ly_if_eq (pc := 3) dJ0_coder_7d493_3 (tgt := 13) rfl (fun h => absurd h (by decide)) (fun _ => ?_)
  refine ly_aload_n (pc := 6) 0 rfl dJ0_coder_7d493_6 rfl ?_
  refine ly_get (pc := 7) (ci := 12) (j := 1) rfl wsJ0 hs (by decide) gj_932 rfl dJ0_coder_7d493_7 ?_
  refine ly_goto (pc := 10) dJ0_coder_7d493_10 (tgt := 14) rfl ?_
  exact ly_zret ⟨rfl, rfl⟩ rfl (rfl) (rfl) (rfl) dJ0_coder_7d493_14
theorem mj_lengthS {w : Wd} {F : Nat → Prop} (hFo : ∀ q, F q → own w q) {x2 x3 : Value} (hs : L[k]? = some (s, .inr (12, [.ref v, .int 0, x2, x3]))) (hj : L[j]? = some (v, byC w n f)) : MJ w mu_J0_length_8abf5 F (0) (0) [.ref s] (L) (fun r L2 => r = some (.int (Int32.ofNat n >>> (0 &&& 31))) ∧ L2 = L) := by
  refine mj_of (lv := [(0, .ref s)]) ok_J0_length_8abf5 rfl (Nat.le_of_ble_eq_true rfl) ?_
  refine ly_aload_n (pc := 0) 0 rfl dJ0_length_8abf5_0 rfl ?_
  refine ly_get (pc := 1) (ci := 12) (j := 0) rfl wsJ0 hs (by decide) gj_931 rfl dJ0_length_8abf5_1 ?_
  refine ly_alenB (pc := 4) hj rfl dJ0_length_8abf5_4 ?_
  refine ly_aload_n (pc := 5) 0 rfl dJ0_length_8abf5_5 rfl ?_
  refine ly_callV (pc := 6) (As := []) (C := RJ0) hFo hs rfl rfl (mj_coder hFo hs) ok_J0_coder_7d493 ⟨Nat.le_of_ble_eq_true rfl, Nat.le_of_ble_eq_true rfl⟩ gj_715 gj_716 (fun C0 => C0.2.2.2.2.2.1 _ gj_717) rfl (rest := [.int (Int32.ofNat n)]) rfl (Nat.le_of_ble_eq_true rfl) (Nat.le_of_ble_eq_true rfl) (Nat.le_of_ble_eq_true rfl) dJ0_length_8abf5_6 (fun r L2 h => ?_)
  rw [h.1, h.2]
  show LW w mu_J0_length_8abf5 _ F _ (L) _ _ [(0, .ref s)] [.int 0, .int (Int32.ofNat n)] 9
  refine ly_ishr (pc := 9) dJ0_length_8abf5_9 ?_
  exact ly_iret ⟨rfl, rfl⟩ rfl (rfl) (rfl) dJ0_length_8abf5_10
theorem mj_isLatin1S {w : Wd} {F : Nat → Prop} (hFo : ∀ q, F q → own w q) {x0 x3 : Value} (hs : L[k]? = some (s, .inr (12, [x0, .int 0, x2, x3]))) : MJ w mu_J0_isLatin1_aae02 F (0) (0) [.ref s] (L) (fun r L2 => r = some (.int 1) ∧ L2 = L) := by
  refine mj_of (lv := [(0, .ref s)]) ok_J0_isLatin1_aae02 rfl (Nat.le_of_ble_eq_true rfl) ?_
  refine ly_compact (pc := 0) hFo gj_719 dJ0_isLatin1_aae02_0 ?_
  refine ly_if_eq (pc := 3) dJ0_isLatin1_aae02_3 (tgt := 17) rfl (fun h => absurd h (by decide)) (fun _ => ?_)
  refine ly_aload_n (pc := 6) 0 rfl dJ0_isLatin1_aae02_6 rfl ?_
  refine ly_get (pc := 7) (ci := 12) (j := 1) rfl wsJ0 hs (by decide) gj_932 rfl dJ0_isLatin1_aae02_7 ?_
  refine ly_if_ne (pc := 10) dJ0_isLatin1_aae02_10 (tgt := 17) rfl (fun h => absurd rfl h) (fun _ => ?_)
  refine ly_iconst (pc := 13) (v := 1) dJ0_isLatin1_aae02_13 (by decide) ?_
  refine ly_goto (pc := 14) dJ0_isLatin1_aae02_14 (tgt := 18) rfl ?_
  exact ly_zret ⟨rfl, rfl⟩ rfl (rfl) (rfl) (rfl) dJ0_isLatin1_aae02_18
theorem mj_checkIndex3N {w : Wd} {F : Nat → Prop} (hFo : ∀ q, F q → own w q) {x y : Int32} (h0 : ¬ x < 0) (hx : x < y) : MJ w mu_J3_checkIndex_8e157 F (0) (0) [.int x, .int y, .null] (L) (fun r L2 => r = some (.int x) ∧ L2 = L) := by
  refine mj_of (lv := [(0, .int x), (1, .int y), (2, .null)]) ok_J3_checkIndex_8e157 rfl (Nat.le_of_ble_eq_true rfl) ?_
  refine ly_iload_n (pc := 0) 0 rfl dJ3_checkIndex_8e157_0 rfl ?_
  refine ly_if_lt (pc := 1) dJ3_checkIndex_8e157_1 (tgt := 9) rfl (fun h => absurd h h0) (fun _ => ?_)
  refine ly_iload_n (pc := 4) 0 rfl dJ3_checkIndex_8e157_4 rfl ?_
  refine ly_iload_n (pc := 5) 1 rfl dJ3_checkIndex_8e157_5 rfl ?_
  refine ly_icmp_lt (pc := 6) dJ3_checkIndex_8e157_6 (tgt := 16) rfl (fun _ => ?_) (fun h => absurd hx h)
  refine ly_iload_n (pc := 16) 0 rfl dJ3_checkIndex_8e157_16 rfl ?_
  exact ly_iret ⟨rfl, rfl⟩ rfl (rfl) (rfl) dJ3_checkIndex_8e157_17
theorem mj_checkIndex3R {w : Wd} {F : Nat → Prop} (hFo : ∀ q, F q → own w q) {t : Nat} {x y : Int32} (h0 : ¬ x < 0) (hx : x < y) : MJ w mu_J3_checkIndex_8e157 F (0) (0) [.int x, .int y, .ref t] (L) (fun r L2 => r = some (.int x) ∧ L2 = L) := by
  refine mj_of (lv := [(0, .int x), (1, .int y), (2, .ref t)]) ok_J3_checkIndex_8e157 rfl (Nat.le_of_ble_eq_true rfl) ?_
  refine ly_iload_n (pc := 0) 0 rfl dJ3_checkIndex_8e157_0 rfl ?_
  refine ly_if_lt (pc := 1) dJ3_checkIndex_8e157_1 (tgt := 9) rfl (fun h => absurd h h0) (fun _ => ?_)
  refine ly_iload_n (pc := 4) 0 rfl dJ3_checkIndex_8e157_4 rfl ?_
  refine ly_iload_n (pc := 5) 1 rfl dJ3_checkIndex_8e157_5 rfl ?_
  refine ly_icmp_lt (pc := 6) dJ3_checkIndex_8e157_6 (tgt := 16) rfl (fun _ => ?_) (fun h => absurd hx h)
  refine ly_iload_n (pc := 16) 0 rfl dJ3_checkIndex_8e157_16 rfl ?_
  exact ly_iret ⟨rfl, rfl⟩ rfl (rfl) (rfl) dJ3_checkIndex_8e157_17
theorem mj_checkIndex {w : Wd} {F : Nat → Prop} (hFo : ∀ q, F q → own w q) {x y : Int32} (h0 : ¬ x < 0) (hx : x < y) : MJ w mu_J0_checkIndex_df160 F (0) (0) [.int x, .int y] (L) (fun r L2 => r = none ∧ L2 = L) := by
  refine mj_of (lv := [(0, .int x), (1, .int y)]) ok_J0_checkIndex_df160 rfl (Nat.le_of_ble_eq_true rfl) ?_
  refine ly_iload_n (pc := 0) 0 rfl dJ0_checkIndex_df160_0 rfl ?_
  refine ly_iload_n (pc := 1) 1 rfl dJ0_checkIndex_df160_1 rfl ?_
  refine ly_sioobe (pc := 2) hFo gj_735 dJ0_checkIndex_df160_2 ?_ (fun t => ?_)
  · refine ly_callS (pc := 5) (As := [.int x, .int y, .null]) hFo (mj_checkIndex3N hFo h0 hx) ok_J3_checkIndex_8e157 ⟨Nat.le_of_ble_eq_true rfl, Nat.le_of_ble_eq_true rfl⟩ (all2 gj_737 gj_738) rfl (rest := []) rfl (Nat.le_of_ble_eq_true rfl) (Nat.le_of_ble_eq_true rfl) (Nat.le_of_ble_eq_true rfl) dJ0_checkIndex_df160_5 (fun r L2 h => ?_)
    rw [h.1, h.2]
    show LW w mu_J0_checkIndex_df160 _ F _ (L) _ _ [(0, .int x), (1, .int y)] [.int x] 8
    refine ly_pop (pc := 8) dJ0_checkIndex_df160_8 rfl ?_
    exact ly_vret ⟨rfl, rfl⟩ rfl (rfl) (rfl) dJ0_checkIndex_df160_9
  · refine ly_callS (pc := 5) (As := [.int x, .int y, .ref t]) hFo (mj_checkIndex3R hFo h0 hx) ok_J3_checkIndex_8e157 ⟨Nat.le_of_ble_eq_true rfl, Nat.le_of_ble_eq_true rfl⟩ (all2 gj_737 gj_738) rfl (rest := []) rfl (Nat.le_of_ble_eq_true rfl) (Nat.le_of_ble_eq_true rfl) (Nat.le_of_ble_eq_true rfl) dJ0_checkIndex_df160_5 (fun r L2 h => ?_)
    rw [h.1, h.2]
    show LW w mu_J0_checkIndex_df160 _ F _ (L) _ _ [(0, .int x), (1, .int y)] [.int x] 8
    refine ly_pop (pc := 8) dJ0_checkIndex_df160_8 rfl ?_
    exact ly_vret ⟨rfl, rfl⟩ rfl (rfl) (rfl) dJ0_checkIndex_df160_9
theorem mj_charAt1 {w : Wd} {F : Nat → Prop} (hFo : ∀ q, F q → own w q) {x : Int32} (hj : L[j]? = some (v, byC w n f)) (h0 : ¬ x < 0) (hx : x < Int32.ofNat n) (hin : vp_in x n) (hv : ((f x.toNatClampNeg &&& 255).toUInt32 % 65536).toInt32 = c) (hc : narrow .char (.int c) = .int c) : MJ w mu_J1_charAt_3b067 F (0) (0) [.ref v, .int x] (L) (fun r L2 => r = some (.int c) ∧ L2 = L) := by
  refine mj_of (lv := [(0, .ref v), (1, .int x)]) ok_J1_charAt_3b067 rfl (Nat.le_of_ble_eq_true rfl) ?_
  refine ly_iload_n (pc := 0) 1 rfl dJ1_charAt_3b067_0 rfl ?_
  refine ly_aload_n (pc := 1) 0 rfl dJ1_charAt_3b067_1 rfl ?_
  refine ly_alenB (pc := 2) hj rfl dJ1_charAt_3b067_2 ?_
  refine ly_callS (pc := 3) (As := [.int x, .int (Int32.ofNat n)]) hFo (mj_checkIndex hFo h0 hx) ok_J0_checkIndex_df160 ⟨Nat.le_of_ble_eq_true rfl, Nat.le_of_ble_eq_true rfl⟩ (all2 gj_732 gj_733) rfl (rest := []) rfl (Nat.le_of_ble_eq_true rfl) (Nat.le_of_ble_eq_true rfl) (Nat.le_of_ble_eq_true rfl) dJ1_charAt_3b067_3 (fun r L2 h => ?_)
  rw [h.1, h.2]
  show LW w mu_J1_charAt_3b067 _ F _ (L) _ _ [(0, .ref v), (1, .int x)] [] 6
  refine ly_aload_n (pc := 6) 0 rfl dJ1_charAt_3b067_6 rfl ?_
  refine ly_iload_n (pc := 7) 1 rfl dJ1_charAt_3b067_7 rfl ?_
  refine ly_bald (pc := 8) hj hin dJ1_charAt_3b067_8 ?_
  refine ly_sipush (pc := 9) (v := 255) dJ1_charAt_3b067_9 (by decide) ?_
  refine ly_iand (pc := 12) dJ1_charAt_3b067_12 ?_
  refine ly_i2c (pc := 13) dJ1_charAt_3b067_13 hv ?_
  exact ly_zret ⟨rfl, rfl⟩ rfl (hc) (rfl) (rfl) dJ1_charAt_3b067_14
theorem mj_charAt {w : Wd} {F : Nat → Prop} (hFo : ∀ q, F q → own w q) {x2 x3 : Value} (hs : L[k]? = some (s, .inr (12, [.ref v, .int 0, x2, x3]))) {x : Int32} (hj : L[j]? = some (v, byC w n f)) (h0 : ¬ x < 0) (hx : x < Int32.ofNat n) (hin : vp_in x n) (hv : ((f x.toNatClampNeg &&& 255).toUInt32 % 65536).toInt32 = c) (hc : narrow .char (.int c) = .int c) : MJ w mu_J0_charAt_5068e F (0) (0) [.ref s, .int x] (L) (fun r L2 => r = some (.int c) ∧ L2 = L) := by
  refine mj_of (lv := [(0, .ref s), (1, .int x)]) ok_J0_charAt_5068e rfl (Nat.le_of_ble_eq_true rfl) ?_
  refine ly_aload_n (pc := 0) 0 rfl dJ0_charAt_5068e_0 rfl ?_
  refine ly_callV (pc := 1) (As := []) (C := RJ0) hFo hs rfl rfl (mj_isLatin1S hFo hs) ok_J0_isLatin1_aae02 ⟨Nat.le_of_ble_eq_true rfl, Nat.le_of_ble_eq_true rfl⟩ gj_725 gj_726 (fun C0 => C0.2.2.2.2.2.1 _ gj_727) rfl (rest := []) rfl (Nat.le_of_ble_eq_true rfl) (Nat.le_of_ble_eq_true rfl) (Nat.le_of_ble_eq_true rfl) dJ0_charAt_5068e_1 (fun r L2 h => ?_)
  rw [h.1, h.2]
  show LW w mu_J0_charAt_5068e _ F _ (L) _ _ [(0, .ref s), (1, .int x)] [.int 1] 4
  refine ly_if_eq (pc := 4) dJ0_charAt_5068e_4 (tgt := 16) rfl (fun h => absurd h (by decide)) (fun _ => ?_)
  refine ly_aload_n (pc := 7) 0 rfl dJ0_charAt_5068e_7 rfl ?_
  refine ly_get (pc := 8) (ci := 12) (j := 0) rfl wsJ0 hs (by decide) gj_931 rfl dJ0_charAt_5068e_8 ?_
  refine ly_iload_n (pc := 11) 1 rfl dJ0_charAt_5068e_11 rfl ?_
  refine ly_callS (pc := 12) (As := [.ref v, .int x]) hFo (mj_charAt1 hFo hj h0 hx hin hv hc) ok_J1_charAt_3b067 ⟨Nat.le_of_ble_eq_true rfl, Nat.le_of_ble_eq_true rfl⟩ (all2 gj_729 gj_730) rfl (rest := []) rfl (Nat.le_of_ble_eq_true rfl) (Nat.le_of_ble_eq_true rfl) (Nat.le_of_ble_eq_true rfl) dJ0_charAt_5068e_12 (fun r L2 h => ?_)
  rw [h.1, h.2]
  show LW w mu_J0_charAt_5068e _ F _ (L) _ _ [(0, .ref s), (1, .int x)] [.int c] 15
  exact ly_zret ⟨rfl, rfl⟩ rfl (hc) (rfl) (rfl) dJ0_charAt_5068e_15
end JD
