abbrev qaX7_init_3 : List Nat := [181, 0, 31, 42, 16, 6, 188, 11, 181, 0, 34, 42, 16, 6, 188, 11]
abbrev qaX7_init_4 : List Nat := [181, 0, 37, 42, 3, 181, 0, 40, 42, 3, 181, 0, 44, 42, 3, 181]
abbrev qaX7_init_5 : List Nat := [0, 47, 42, 43, 181, 0, 50, 3, 61, 28, 16, 6, 162, 0, 22, 42]
abbrev qaX7_init_6 : List Nat := [180, 0, 23, 28, 187, 0, 21, 89, 183, 0, 54, 83, 132, 2, 1, 167]
abbrev qaX7_init_7 : List Nat := [255, 234, 177]
def qtX7_init_8 : List Nat := []
def qtX7_init_7 : List Nat := qaX7_init_7 ++ qtX7_init_8
def qtX7_init_6 : List Nat := qaX7_init_6 ++ qtX7_init_7
def qtX7_init_5 : List Nat := qaX7_init_5 ++ qtX7_init_6
def qtX7_init_4 : List Nat := qaX7_init_4 ++ qtX7_init_5
def qtX7_init_3 : List Nat := qaX7_init_3 ++ qtX7_init_4
def qtX7_init_2 : List Nat := qaX7_init_2 ++ qtX7_init_3
def qtX7_init_1 : List Nat := qaX7_init_1 ++ qtX7_init_2
def qtX7_init_0 : List Nat := qaX7_init_0 ++ qtX7_init_1
theorem qeX7_init : cX7_init.data.toList.map UInt8.toNat = qtX7_init_0 := by decide +kernel
theorem qsX7_init_0 : ∀ i, dqNth qtX7_init_0 (0 + i) = dqNth qtX7_init_0 i := fun i => by rw [Nat.zero_add]
theorem qsX7_init_1 : ∀ i, dqNth qtX7_init_0 (16 + i) = dqNth qtX7_init_1 i := dq_step qsX7_init_0 rfl rfl
theorem qsX7_init_2 : ∀ i, dqNth qtX7_init_0 (32 + i) = dqNth qtX7_init_2 i := dq_step qsX7_init_1 rfl rfl
theorem qsX7_init_3 : ∀ i, dqNth qtX7_init_0 (48 + i) = dqNth qtX7_init_3 i := dq_step qsX7_init_2 rfl rfl
theorem qsX7_init_4 : ∀ i, dqNth qtX7_init_0 (64 + i) = dqNth qtX7_init_4 i := dq_step qsX7_init_3 rfl rfl
theorem qsX7_init_5 : ∀ i, dqNth qtX7_init_0 (80 + i) = dqNth qtX7_init_5 i := dq_step qsX7_init_4 rfl rfl
theorem qsX7_init_6 : ∀ i, dqNth qtX7_init_0 (96 + i) = dqNth qtX7_init_6 i := dq_step qsX7_init_5 rfl rfl
theorem qsX7_init_7 : ∀ i, dqNth qtX7_init_0 (112 + i) = dqNth qtX7_init_7 i := dq_step qsX7_init_6 rfl rfl
theorem qX7_init_0 (i b : Nat) (h : dqNth qaX7_init_0 i = some b) : DqBy cX7_init (0 + i) b := dqBy_of qeX7_init ((qsX7_init_0 i).trans (dq_in h))
theorem qX7_init_1 (i b : Nat) (h : dqNth qaX7_init_1 i = some b) : DqBy cX7_init (16 + i) b := dqBy_of qeX7_init ((qsX7_init_1 i).trans (dq_in h))
theorem qX7_init_2 (i b : Nat) (h : dqNth qaX7_init_2 i = some b) : DqBy cX7_init (32 + i) b := dqBy_of qeX7_init ((qsX7_init_2 i).trans (dq_in h))
theorem qX7_init_3 (i b : Nat) (h : dqNth qaX7_init_3 i = some b) : DqBy cX7_init (48 + i) b := dqBy_of qeX7_init ((qsX7_init_3 i).trans (dq_in h))
theorem qX7_init_4 (i b : Nat) (h : dqNth qaX7_init_4 i = some b) : DqBy cX7_init (64 + i) b := dqBy_of qeX7_init ((qsX7_init_4 i).trans (dq_in h))
theorem qX7_init_5 (i b : Nat) (h : dqNth qaX7_init_5 i = some b) : DqBy cX7_init (80 + i) b := dqBy_of qeX7_init ((qsX7_init_5 i).trans (dq_in h))
theorem qX7_init_6 (i b : Nat) (h : dqNth qaX7_init_6 i = some b) : DqBy cX7_init (96 + i) b := dqBy_of qeX7_init ((qsX7_init_6 i).trans (dq_in h))
theorem qX7_init_7 (i b : Nat) (h : dqNth qaX7_init_7 i = some b) : DqBy cX7_init (112 + i) b := dqBy_of qeX7_init ((qsX7_init_7 i).trans (dq_in h))
theorem dX7_init_0 : decode cX7_init 0 = .ok (.aload_n 0, 1) := @dq_o42 cX7_init 0 (qX7_init_0 0 42 rfl)
theorem dX7_init_1 : decode cX7_init 1 = .ok (.invokespecial 3, 3) := @dq_o183 cX7_init 1 0 3 (qX7_init_0 1 183 rfl) (qX7_init_0 2 0 rfl) (qX7_init_0 3 3 rfl)
theorem dX7_init_4 : decode cX7_init 4 = .ok (.aload_n 0, 1) := @dq_o42 cX7_init 4 (qX7_init_0 4 42 rfl)
theorem dX7_init_5 : decode cX7_init 5 = .ok (.new 9, 3) := @dq_o187 cX7_init 5 0 9 (qX7_init_0 5 187 rfl) (qX7_init_0 6 0 rfl) (qX7_init_0 7 9 rfl)
theorem dX7_init_8 : decode cX7_init 8 = .ok (.dup, 1) := @dq_o89 cX7_init 8 (qX7_init_0 8 89 rfl)
theorem dX7_init_9 : decode cX7_init 9 = .ok (.invokespecial 11, 3) := @dq_o183 cX7_init 9 0 11 (qX7_init_0 9 183 rfl) (qX7_init_0 10 0 rfl) (qX7_init_0 11 11 rfl)
theorem dX7_init_12 : decode cX7_init 12 = .ok (.putfield 12, 3) := @dq_o181 cX7_init 12 0 12 (qX7_init_0 12 181 rfl) (qX7_init_0 13 0 rfl) (qX7_init_0 14 12 rfl)
theorem dX7_init_15 : decode cX7_init 15 = .ok (.aload_n 0, 1) := @dq_o42 cX7_init 15 (qX7_init_0 15 42 rfl)
theorem dX7_init_16 : decode cX7_init 16 = .ok (.new 9, 3) := @dq_o187 cX7_init 16 0 9 (qX7_init_1 0 187 rfl) (qX7_init_1 1 0 rfl) (qX7_init_1 2 9 rfl)
theorem dX7_init_19 : decode cX7_init 19 = .ok (.dup, 1) := @dq_o89 cX7_init 19 (qX7_init_1 3 89 rfl)
theorem dX7_init_20 : decode cX7_init 20 = .ok (.invokespecial 11, 3) := @dq_o183 cX7_init 20 0 11 (qX7_init_1 4 183 rfl) (qX7_init_1 5 0 rfl) (qX7_init_1 6 11 rfl)
theorem dX7_init_23 : decode cX7_init 23 = .ok (.putfield 18, 3) := @dq_o181 cX7_init 23 0 18 (qX7_init_1 7 181 rfl) (qX7_init_1 8 0 rfl) (qX7_init_1 9 18 rfl)
theorem dX7_init_26 : decode cX7_init 26 = .ok (.aload_n 0, 1) := @dq_o42 cX7_init 26 (qX7_init_1 10 42 rfl)
theorem dX7_init_27 : decode cX7_init 27 = .ok (.bipush 6, 2) := @dq_o16 cX7_init 27 6 (qX7_init_1 11 16 rfl) (qX7_init_1 12 6 rfl)
theorem dX7_init_29 : decode cX7_init 29 = .ok (.anewarray 21, 3) := @dq_o189 cX7_init 29 0 21 (qX7_init_1 13 189 rfl) (qX7_init_1 14 0 rfl) (qX7_init_1 15 21 rfl)
theorem dX7_init_32 : decode cX7_init 32 = .ok (.putfield 23, 3) := @dq_o181 cX7_init 32 0 23 (qX7_init_2 0 181 rfl) (qX7_init_2 1 0 rfl) (qX7_init_2 2 23 rfl)
theorem dX7_init_35 : decode cX7_init 35 = .ok (.aload_n 0, 1) := @dq_o42 cX7_init 35 (qX7_init_2 3 42 rfl)
theorem dX7_init_36 : decode cX7_init 36 = .ok (.bipush 64, 2) := @dq_o16 cX7_init 36 64 (qX7_init_2 4 16 rfl) (qX7_init_2 5 64 rfl)
theorem dX7_init_38 : decode cX7_init 38 = .ok (.newarray .long, 2) := by decide +kernel
theorem dX7_init_40 : decode cX7_init 40 = .ok (.putfield 27, 3) := @dq_o181 cX7_init 40 0 27 (qX7_init_2 8 181 rfl) (qX7_init_2 9 0 rfl) (qX7_init_2 10 27 rfl)
theorem dX7_init_43 : decode cX7_init 43 = .ok (.aload_n 0, 1) := @dq_o42 cX7_init 43 (qX7_init_2 11 42 rfl)
theorem dX7_init_44 : decode cX7_init 44 = .ok (.bipush 6, 2) := @dq_o16 cX7_init 44 6 (qX7_init_2 12 16 rfl) (qX7_init_2 13 6 rfl)
theorem dX7_init_46 : decode cX7_init 46 = .ok (.newarray .long, 2) := by decide +kernel
theorem dX7_init_48 : decode cX7_init 48 = .ok (.putfield 31, 3) := @dq_o181 cX7_init 48 0 31 (qX7_init_3 0 181 rfl) (qX7_init_3 1 0 rfl) (qX7_init_3 2 31 rfl)
theorem dX7_init_51 : decode cX7_init 51 = .ok (.aload_n 0, 1) := @dq_o42 cX7_init 51 (qX7_init_3 3 42 rfl)
theorem dX7_init_52 : decode cX7_init 52 = .ok (.bipush 6, 2) := @dq_o16 cX7_init 52 6 (qX7_init_3 4 16 rfl) (qX7_init_3 5 6 rfl)
theorem dX7_init_54 : decode cX7_init 54 = .ok (.newarray .long, 2) := by decide +kernel
theorem dX7_init_56 : decode cX7_init 56 = .ok (.putfield 34, 3) := @dq_o181 cX7_init 56 0 34 (qX7_init_3 8 181 rfl) (qX7_init_3 9 0 rfl) (qX7_init_3 10 34 rfl)
theorem dX7_init_59 : decode cX7_init 59 = .ok (.aload_n 0, 1) := @dq_o42 cX7_init 59 (qX7_init_3 11 42 rfl)
theorem dX7_init_60 : decode cX7_init 60 = .ok (.bipush 6, 2) := @dq_o16 cX7_init 60 6 (qX7_init_3 12 16 rfl) (qX7_init_3 13 6 rfl)
theorem dX7_init_62 : decode cX7_init 62 = .ok (.newarray .long, 2) := by decide +kernel
theorem dX7_init_64 : decode cX7_init 64 = .ok (.putfield 37, 3) := @dq_o181 cX7_init 64 0 37 (qX7_init_4 0 181 rfl) (qX7_init_4 1 0 rfl) (qX7_init_4 2 37 rfl)
theorem dX7_init_67 : decode cX7_init 67 = .ok (.aload_n 0, 1) := @dq_o42 cX7_init 67 (qX7_init_4 3 42 rfl)
theorem dX7_init_68 : decode cX7_init 68 = .ok (.iconst 0, 1) := @dq_o3 cX7_init 68 (qX7_init_4 4 3 rfl)
theorem dX7_init_69 : decode cX7_init 69 = .ok (.putfield 40, 3) := @dq_o181 cX7_init 69 0 40 (qX7_init_4 5 181 rfl) (qX7_init_4 6 0 rfl) (qX7_init_4 7 40 rfl)
theorem dX7_init_72 : decode cX7_init 72 = .ok (.aload_n 0, 1) := @dq_o42 cX7_init 72 (qX7_init_4 8 42 rfl)
theorem dX7_init_73 : decode cX7_init 73 = .ok (.iconst 0, 1) := @dq_o3 cX7_init 73 (qX7_init_4 9 3 rfl)
theorem dX7_init_74 : decode cX7_init 74 = .ok (.putfield 44, 3) := @dq_o181 cX7_init 74 0 44 (qX7_init_4 10 181 rfl) (qX7_init_4 11 0 rfl) (qX7_init_4 12 44 rfl)
theorem dX7_init_77 : decode cX7_init 77 = .ok (.aload_n 0, 1) := @dq_o42 cX7_init 77 (qX7_init_4 13 42 rfl)
theorem dX7_init_78 : decode cX7_init 78 = .ok (.iconst 0, 1) := @dq_o3 cX7_init 78 (qX7_init_4 14 3 rfl)
theorem dX7_init_79 : decode cX7_init 79 = .ok (.putfield 47, 3) := @dq_o181 cX7_init 79 0 47 (qX7_init_4 15 181 rfl) (qX7_init_5 0 0 rfl) (qX7_init_5 1 47 rfl)
theorem dX7_init_82 : decode cX7_init 82 = .ok (.aload_n 0, 1) := @dq_o42 cX7_init 82 (qX7_init_5 2 42 rfl)
theorem dX7_init_83 : decode cX7_init 83 = .ok (.aload_n 1, 1) := @dq_o43 cX7_init 83 (qX7_init_5 3 43 rfl)
theorem dX7_init_84 : decode cX7_init 84 = .ok (.putfield 50, 3) := @dq_o181 cX7_init 84 0 50 (qX7_init_5 4 181 rfl) (qX7_init_5 5 0 rfl) (qX7_init_5 6 50 rfl)
theorem dX7_init_87 : decode cX7_init 87 = .ok (.iconst 0, 1) := @dq_o3 cX7_init 87 (qX7_init_5 7 3 rfl)
theorem dX7_init_88 : decode cX7_init 88 = .ok (.istore_n 2, 1) := @dq_o61 cX7_init 88 (qX7_init_5 8 61 rfl)
theorem dX7_init_89 : decode cX7_init 89 = .ok (.iload_n 2, 1) := @dq_o28 cX7_init 89 (qX7_init_5 9 28 rfl)
theorem dX7_init_90 : decode cX7_init 90 = .ok (.bipush 6, 2) := @dq_o16 cX7_init 90 6 (qX7_init_5 10 16 rfl) (qX7_init_5 11 6 rfl)
theorem dX7_init_92 : decode cX7_init 92 = .ok (.if_icmp .ge 22, 3) := @dq_o162 cX7_init 92 0 22 (qX7_init_5 12 162 rfl) (qX7_init_5 13 0 rfl) (qX7_init_5 14 22 rfl)
theorem dX7_init_95 : decode cX7_init 95 = .ok (.aload_n 0, 1) := @dq_o42 cX7_init 95 (qX7_init_5 15 42 rfl)
theorem dX7_init_96 : decode cX7_init 96 = .ok (.getfield 23, 3) := @dq_o180 cX7_init 96 0 23 (qX7_init_6 0 180 rfl) (qX7_init_6 1 0 rfl) (qX7_init_6 2 23 rfl)
theorem dX7_init_99 : decode cX7_init 99 = .ok (.iload_n 2, 1) := @dq_o28 cX7_init 99 (qX7_init_6 3 28 rfl)
theorem dX7_init_100 : decode cX7_init 100 = .ok (.new 21, 3) := @dq_o187 cX7_init 100 0 21 (qX7_init_6 4 187 rfl) (qX7_init_6 5 0 rfl) (qX7_init_6 6 21 rfl)
theorem dX7_init_103 : decode cX7_init 103 = .ok (.dup, 1) := @dq_o89 cX7_init 103 (qX7_init_6 7 89 rfl)
theorem dX7_init_104 : decode cX7_init 104 = .ok (.invokespecial 54, 3) := @dq_o183 cX7_init 104 0 54 (qX7_init_6 8 183 rfl) (qX7_init_6 9 0 rfl) (qX7_init_6 10 54 rfl)
theorem dX7_init_107 : decode cX7_init 107 = .ok (.aastore, 1) := @dq_o83 cX7_init 107 (qX7_init_6 11 83 rfl)
theorem dX7_init_108 : decode cX7_init 108 = .ok (.iinc 2 1, 3) := @dq_o132 cX7_init 108 2 1 (qX7_init_6 12 132 rfl) (qX7_init_6 13 2 rfl) (qX7_init_6 14 1 rfl)
theorem dX7_init_111 : decode cX7_init 111 = .ok (.goto (-22), 3) := @dq_o167 cX7_init 111 255 234 (qX7_init_6 15 167 rfl) (qX7_init_7 0 255 rfl) (qX7_init_7 1 234 rfl)
theorem dX7_init_114 : decode cX7_init 114 = .ok (.return_, 1) := @dq_o177 cX7_init 114 (qX7_init_7 2 177 rfl)
abbrev qaX7_findGaps_0 : List Nat := [3, 62, 29, 16, 6, 162, 0, 34, 42, 180, 0, 27, 29, 43, 29, 47]
abbrev qaX7_findGaps_1 : List Nat := [184, 0, 55, 42, 180, 0, 27, 16, 6, 29, 96, 44, 29, 47, 184, 0]
abbrev qaX7_findGaps_2 : List Nat := [55, 132, 3, 1, 167, 255, 222, 3, 62, 29, 16, 6, 162, 0, 38, 42]
abbrev qaX7_findGaps_3 : List Nat := [180, 0, 23, 29, 50, 3, 181, 0, 61, 42, 42, 180, 0, 50, 180, 0]
abbrev qaX7_findGaps_4 : List Nat := [64, 29, 50, 42, 180, 0, 23, 29, 50, 182, 0, 67, 132, 3, 1, 167]
abbrev qaX7_findGaps_5 : List Nat := [255, 218, 177]
def qtX7_findGaps_6 : List Nat := []
def qtX7_findGaps_5 : List Nat := qaX7_findGaps_5 ++ qtX7_findGaps_6
def qtX7_findGaps_4 : List Nat := qaX7_findGaps_4 ++ qtX7_findGaps_5
def qtX7_findGaps_3 : List Nat := qaX7_findGaps_3 ++ qtX7_findGaps_4
def qtX7_findGaps_2 : List Nat := qaX7_findGaps_2 ++ qtX7_findGaps_3
def qtX7_findGaps_1 : List Nat := qaX7_findGaps_1 ++ qtX7_findGaps_2
def qtX7_findGaps_0 : List Nat := qaX7_findGaps_0 ++ qtX7_findGaps_1
theorem qeX7_findGaps : cX7_findGaps.data.toList.map UInt8.toNat = qtX7_findGaps_0 := by decide +kernel
theorem qsX7_findGaps_0 : ∀ i, dqNth qtX7_findGaps_0 (0 + i) = dqNth qtX7_findGaps_0 i := fun i => by rw [Nat.zero_add]
theorem qsX7_findGaps_1 : ∀ i, dqNth qtX7_findGaps_0 (16 + i) = dqNth qtX7_findGaps_1 i := dq_step qsX7_findGaps_0 rfl rfl
theorem qsX7_findGaps_2 : ∀ i, dqNth qtX7_findGaps_0 (32 + i) = dqNth qtX7_findGaps_2 i := dq_step qsX7_findGaps_1 rfl rfl
theorem qsX7_findGaps_3 : ∀ i, dqNth qtX7_findGaps_0 (48 + i) = dqNth qtX7_findGaps_3 i := dq_step qsX7_findGaps_2 rfl rfl
theorem qsX7_findGaps_4 : ∀ i, dqNth qtX7_findGaps_0 (64 + i) = dqNth qtX7_findGaps_4 i := dq_step qsX7_findGaps_3 rfl rfl
theorem qsX7_findGaps_5 : ∀ i, dqNth qtX7_findGaps_0 (80 + i) = dqNth qtX7_findGaps_5 i := dq_step qsX7_findGaps_4 rfl rfl
theorem qX7_findGaps_0 (i b : Nat) (h : dqNth qaX7_findGaps_0 i = some b) : DqBy cX7_findGaps (0 + i) b := dqBy_of qeX7_findGaps ((qsX7_findGaps_0 i).trans (dq_in h))
theorem qX7_findGaps_1 (i b : Nat) (h : dqNth qaX7_findGaps_1 i = some b) : DqBy cX7_findGaps (16 + i) b := dqBy_of qeX7_findGaps ((qsX7_findGaps_1 i).trans (dq_in h))
theorem qX7_findGaps_2 (i b : Nat) (h : dqNth qaX7_findGaps_2 i = some b) : DqBy cX7_findGaps (32 + i) b := dqBy_of qeX7_findGaps ((qsX7_findGaps_2 i).trans (dq_in h))
theorem qX7_findGaps_3 (i b : Nat) (h : dqNth qaX7_findGaps_3 i = some b) : DqBy cX7_findGaps (48 + i) b := dqBy_of qeX7_findGaps ((qsX7_findGaps_3 i).trans (dq_in h))
theorem qX7_findGaps_4 (i b : Nat) (h : dqNth qaX7_findGaps_4 i = some b) : DqBy cX7_findGaps (64 + i) b := dqBy_of qeX7_findGaps ((qsX7_findGaps_4 i).trans (dq_in h))
theorem qX7_findGaps_5 (i b : Nat) (h : dqNth qaX7_findGaps_5 i = some b) : DqBy cX7_findGaps (80 + i) b := dqBy_of qeX7_findGaps ((qsX7_findGaps_5 i).trans (dq_in h))
theorem dX7_findGaps_0 : decode cX7_findGaps 0 = .ok (.iconst 0, 1) := @dq_o3 cX7_findGaps 0 (qX7_findGaps_0 0 3 rfl)
theorem dX7_findGaps_1 : decode cX7_findGaps 1 = .ok (.istore_n 3, 1) := @dq_o62 cX7_findGaps 1 (qX7_findGaps_0 1 62 rfl)
theorem dX7_findGaps_2 : decode cX7_findGaps 2 = .ok (.iload_n 3, 1) := @dq_o29 cX7_findGaps 2 (qX7_findGaps_0 2 29 rfl)
theorem dX7_findGaps_3 : decode cX7_findGaps 3 = .ok (.bipush 6, 2) := @dq_o16 cX7_findGaps 3 6 (qX7_findGaps_0 3 16 rfl) (qX7_findGaps_0 4 6 rfl)
theorem dX7_findGaps_5 : decode cX7_findGaps 5 = .ok (.if_icmp .ge 34, 3) := @dq_o162 cX7_findGaps 5 0 34 (qX7_findGaps_0 5 162 rfl) (qX7_findGaps_0 6 0 rfl) (qX7_findGaps_0 7 34 rfl)
theorem dX7_findGaps_8 : decode cX7_findGaps 8 = .ok (.aload_n 0, 1) := @dq_o42 cX7_findGaps 8 (qX7_findGaps_0 8 42 rfl)
theorem dX7_findGaps_9 : decode cX7_findGaps 9 = .ok (.getfield 27, 3) := @dq_o180 cX7_findGaps 9 0 27 (qX7_findGaps_0 9 180 rfl) (qX7_findGaps_0 10 0 rfl) (qX7_findGaps_0 11 27 rfl)
theorem dX7_findGaps_12 : decode cX7_findGaps 12 = .ok (.iload_n 3, 1) := @dq_o29 cX7_findGaps 12 (qX7_findGaps_0 12 29 rfl)
theorem dX7_findGaps_13 : decode cX7_findGaps 13 = .ok (.aload_n 1, 1) := @dq_o43 cX7_findGaps 13 (qX7_findGaps_0 13 43 rfl)
theorem dX7_findGaps_14 : decode cX7_findGaps 14 = .ok (.iload_n 3, 1) := @dq_o29 cX7_findGaps 14 (qX7_findGaps_0 14 29 rfl)
theorem dX7_findGaps_15 : decode cX7_findGaps 15 = .ok (.laload, 1) := @dq_o47 cX7_findGaps 15 (qX7_findGaps_0 15 47 rfl)
theorem dX7_findGaps_16 : decode cX7_findGaps 16 = .ok (.invokestatic 55, 3) := @dq_o184 cX7_findGaps 16 0 55 (qX7_findGaps_1 0 184 rfl) (qX7_findGaps_1 1 0 rfl) (qX7_findGaps_1 2 55 rfl)
theorem dX7_findGaps_19 : decode cX7_findGaps 19 = .ok (.aload_n 0, 1) := @dq_o42 cX7_findGaps 19 (qX7_findGaps_1 3 42 rfl)
theorem dX7_findGaps_20 : decode cX7_findGaps 20 = .ok (.getfield 27, 3) := @dq_o180 cX7_findGaps 20 0 27 (qX7_findGaps_1 4 180 rfl) (qX7_findGaps_1 5 0 rfl) (qX7_findGaps_1 6 27 rfl)
theorem dX7_findGaps_23 : decode cX7_findGaps 23 = .ok (.bipush 6, 2) := @dq_o16 cX7_findGaps 23 6 (qX7_findGaps_1 7 16 rfl) (qX7_findGaps_1 8 6 rfl)
theorem dX7_findGaps_25 : decode cX7_findGaps 25 = .ok (.iload_n 3, 1) := @dq_o29 cX7_findGaps 25 (qX7_findGaps_1 9 29 rfl)
theorem dX7_findGaps_26 : decode cX7_findGaps 26 = .ok (.iadd, 1) := @dq_o96 cX7_findGaps 26 (qX7_findGaps_1 10 96 rfl)
theorem dX7_findGaps_27 : decode cX7_findGaps 27 = .ok (.aload_n 2, 1) := @dq_o44 cX7_findGaps 27 (qX7_findGaps_1 11 44 rfl)
theorem dX7_findGaps_28 : decode cX7_findGaps 28 = .ok (.iload_n 3, 1) := @dq_o29 cX7_findGaps 28 (qX7_findGaps_1 12 29 rfl)
theorem dX7_findGaps_29 : decode cX7_findGaps 29 = .ok (.laload, 1) := @dq_o47 cX7_findGaps 29 (qX7_findGaps_1 13 47 rfl)
theorem dX7_findGaps_30 : decode cX7_findGaps 30 = .ok (.invokestatic 55, 3) := @dq_o184 cX7_findGaps 30 0 55 (qX7_findGaps_1 14 184 rfl) (qX7_findGaps_1 15 0 rfl) (qX7_findGaps_2 0 55 rfl)
theorem dX7_findGaps_33 : decode cX7_findGaps 33 = .ok (.iinc 3 1, 3) := @dq_o132 cX7_findGaps 33 3 1 (qX7_findGaps_2 1 132 rfl) (qX7_findGaps_2 2 3 rfl) (qX7_findGaps_2 3 1 rfl)
theorem dX7_findGaps_36 : decode cX7_findGaps 36 = .ok (.goto (-34), 3) := @dq_o167 cX7_findGaps 36 255 222 (qX7_findGaps_2 4 167 rfl) (qX7_findGaps_2 5 255 rfl) (qX7_findGaps_2 6 222 rfl)
theorem dX7_findGaps_39 : decode cX7_findGaps 39 = .ok (.iconst 0, 1) := @dq_o3 cX7_findGaps 39 (qX7_findGaps_2 7 3 rfl)
theorem dX7_findGaps_40 : decode cX7_findGaps 40 = .ok (.istore_n 3, 1) := @dq_o62 cX7_findGaps 40 (qX7_findGaps_2 8 62 rfl)
theorem dX7_findGaps_41 : decode cX7_findGaps 41 = .ok (.iload_n 3, 1) := @dq_o29 cX7_findGaps 41 (qX7_findGaps_2 9 29 rfl)
theorem dX7_findGaps_42 : decode cX7_findGaps 42 = .ok (.bipush 6, 2) := @dq_o16 cX7_findGaps 42 6 (qX7_findGaps_2 10 16 rfl) (qX7_findGaps_2 11 6 rfl)
theorem dX7_findGaps_44 : decode cX7_findGaps 44 = .ok (.if_icmp .ge 38, 3) := @dq_o162 cX7_findGaps 44 0 38 (qX7_findGaps_2 12 162 rfl) (qX7_findGaps_2 13 0 rfl) (qX7_findGaps_2 14 38 rfl)
theorem dX7_findGaps_47 : decode cX7_findGaps 47 = .ok (.aload_n 0, 1) := @dq_o42 cX7_findGaps 47 (qX7_findGaps_2 15 42 rfl)
theorem dX7_findGaps_48 : decode cX7_findGaps 48 = .ok (.getfield 23, 3) := @dq_o180 cX7_findGaps 48 0 23 (qX7_findGaps_3 0 180 rfl) (qX7_findGaps_3 1 0 rfl) (qX7_findGaps_3 2 23 rfl)
theorem dX7_findGaps_51 : decode cX7_findGaps 51 = .ok (.iload_n 3, 1) := @dq_o29 cX7_findGaps 51 (qX7_findGaps_3 3 29 rfl)
theorem dX7_findGaps_52 : decode cX7_findGaps 52 = .ok (.aaload, 1) := @dq_o50 cX7_findGaps 52 (qX7_findGaps_3 4 50 rfl)
theorem dX7_findGaps_53 : decode cX7_findGaps 53 = .ok (.iconst 0, 1) := @dq_o3 cX7_findGaps 53 (qX7_findGaps_3 5 3 rfl)
theorem dX7_findGaps_54 : decode cX7_findGaps 54 = .ok (.putfield 61, 3) := @dq_o181 cX7_findGaps 54 0 61 (qX7_findGaps_3 6 181 rfl) (qX7_findGaps_3 7 0 rfl) (qX7_findGaps_3 8 61 rfl)
theorem dX7_findGaps_57 : decode cX7_findGaps 57 = .ok (.aload_n 0, 1) := @dq_o42 cX7_findGaps 57 (qX7_findGaps_3 9 42 rfl)
theorem dX7_findGaps_58 : decode cX7_findGaps 58 = .ok (.aload_n 0, 1) := @dq_o42 cX7_findGaps 58 (qX7_findGaps_3 10 42 rfl)
theorem dX7_findGaps_59 : decode cX7_findGaps 59 = .ok (.getfield 50, 3) := @dq_o180 cX7_findGaps 59 0 50 (qX7_findGaps_3 11 180 rfl) (qX7_findGaps_3 12 0 rfl) (qX7_findGaps_3 13 50 rfl)
theorem dX7_findGaps_62 : decode cX7_findGaps 62 = .ok (.getfield 64, 3) := @dq_o180 cX7_findGaps 62 0 64 (qX7_findGaps_3 14 180 rfl) (qX7_findGaps_3 15 0 rfl) (qX7_findGaps_4 0 64 rfl)
theorem dX7_findGaps_65 : decode cX7_findGaps 65 = .ok (.iload_n 3, 1) := @dq_o29 cX7_findGaps 65 (qX7_findGaps_4 1 29 rfl)
theorem dX7_findGaps_66 : decode cX7_findGaps 66 = .ok (.aaload, 1) := @dq_o50 cX7_findGaps 66 (qX7_findGaps_4 2 50 rfl)
theorem dX7_findGaps_67 : decode cX7_findGaps 67 = .ok (.aload_n 0, 1) := @dq_o42 cX7_findGaps 67 (qX7_findGaps_4 3 42 rfl)
theorem dX7_findGaps_68 : decode cX7_findGaps 68 = .ok (.getfield 23, 3) := @dq_o180 cX7_findGaps 68 0 23 (qX7_findGaps_4 4 180 rfl) (qX7_findGaps_4 5 0 rfl) (qX7_findGaps_4 6 23 rfl)
theorem dX7_findGaps_71 : decode cX7_findGaps 71 = .ok (.iload_n 3, 1) := @dq_o29 cX7_findGaps 71 (qX7_findGaps_4 7 29 rfl)
theorem dX7_findGaps_72 : decode cX7_findGaps 72 = .ok (.aaload, 1) := @dq_o50 cX7_findGaps 72 (qX7_findGaps_4 8 50 rfl)
theorem dX7_findGaps_73 : decode cX7_findGaps 73 = .ok (.invokevirtual 67, 3) := @dq_o182 cX7_findGaps 73 0 67 (qX7_findGaps_4 9 182 rfl) (qX7_findGaps_4 10 0 rfl) (qX7_findGaps_4 11 67 rfl)
theorem dX7_findGaps_76 : decode cX7_findGaps 76 = .ok (.iinc 3 1, 3) := @dq_o132 cX7_findGaps 76 3 1 (qX7_findGaps_4 12 132 rfl) (qX7_findGaps_4 13 3 rfl) (qX7_findGaps_4 14 1 rfl)
theorem dX7_findGaps_79 : decode cX7_findGaps 79 = .ok (.goto (-38), 3) := @dq_o167 cX7_findGaps 79 255 218 (qX7_findGaps_4 15 167 rfl) (qX7_findGaps_5 0 255 rfl) (qX7_findGaps_5 1 218 rfl)
theorem dX7_findGaps_82 : decode cX7_findGaps 82 = .ok (.return_, 1) := @dq_o177 cX7_findGaps 82 (qX7_findGaps_5 2 177 rfl)
abbrev qaX7_findGap_0 : List Nat := [3, 62, 29, 43, 180, 0, 61, 162, 0, 86, 43, 180, 0, 71, 29, 46]
abbrev qaX7_findGap_1 : List Nat := [18, 75, 126, 54, 4, 43, 180, 0, 71, 29, 46, 17, 15, 255, 126, 54]
abbrev qaX7_findGap_2 : List Nat := [5, 44, 21, 5, 16, 12, 120, 43, 180, 0, 76, 29, 47, 21, 4, 184]
abbrev qaX7_findGap_3 : List Nat := [0, 79, 42, 180, 0, 27, 184, 0, 83, 105, 182, 0, 87, 44, 21, 4]
abbrev qaX7_findGap_4 : List Nat := [43, 180, 0, 76, 29, 47, 117, 21, 5, 184, 0, 79, 42, 180, 0, 27]
abbrev qaX7_findGap_5 : List Nat := [184, 0, 83, 105, 182, 0, 87, 132, 3, 1, 167, 255, 168, 177]
def qtX7_findGap_6 : List Nat := []
def qtX7_findGap_5 : List Nat := qaX7_findGap_5 ++ qtX7_findGap_6
def qtX7_findGap_4 : List Nat := qaX7_findGap_4 ++ qtX7_findGap_5
def qtX7_findGap_3 : List Nat := qaX7_findGap_3 ++ qtX7_findGap_4
def qtX7_findGap_2 : List Nat := qaX7_findGap_2 ++ qtX7_findGap_3
def qtX7_findGap_1 : List Nat := qaX7_findGap_1 ++ qtX7_findGap_2
def qtX7_findGap_0 : List Nat := qaX7_findGap_0 ++ qtX7_findGap_1
theorem qeX7_findGap : cX7_findGap.data.toList.map UInt8.toNat = qtX7_findGap_0 := by decide +kernel
theorem qsX7_findGap_0 : ∀ i, dqNth qtX7_findGap_0 (0 + i) = dqNth qtX7_findGap_0 i := fun i => by rw [Nat.zero_add]
theorem qsX7_findGap_1 : ∀ i, dqNth qtX7_findGap_0 (16 + i) = dqNth qtX7_findGap_1 i := dq_step qsX7_findGap_0 rfl rfl
theorem qsX7_findGap_2 : ∀ i, dqNth qtX7_findGap_0 (32 + i) = dqNth qtX7_findGap_2 i := dq_step qsX7_findGap_1 rfl rfl
theorem qsX7_findGap_3 : ∀ i, dqNth qtX7_findGap_0 (48 + i) = dqNth qtX7_findGap_3 i := dq_step qsX7_findGap_2 rfl rfl
theorem qsX7_findGap_4 : ∀ i, dqNth qtX7_findGap_0 (64 + i) = dqNth qtX7_findGap_4 i := dq_step qsX7_findGap_3 rfl rfl
theorem qsX7_findGap_5 : ∀ i, dqNth qtX7_findGap_0 (80 + i) = dqNth qtX7_findGap_5 i := dq_step qsX7_findGap_4 rfl rfl
theorem qX7_findGap_0 (i b : Nat) (h : dqNth qaX7_findGap_0 i = some b) : DqBy cX7_findGap (0 + i) b := dqBy_of qeX7_findGap ((qsX7_findGap_0 i).trans (dq_in h))
theorem qX7_findGap_1 (i b : Nat) (h : dqNth qaX7_findGap_1 i = some b) : DqBy cX7_findGap (16 + i) b := dqBy_of qeX7_findGap ((qsX7_findGap_1 i).trans (dq_in h))
theorem qX7_findGap_2 (i b : Nat) (h : dqNth qaX7_findGap_2 i = some b) : DqBy cX7_findGap (32 + i) b := dqBy_of qeX7_findGap ((qsX7_findGap_2 i).trans (dq_in h))
theorem qX7_findGap_3 (i b : Nat) (h : dqNth qaX7_findGap_3 i = some b) : DqBy cX7_findGap (48 + i) b := dqBy_of qeX7_findGap ((qsX7_findGap_3 i).trans (dq_in h))
theorem qX7_findGap_4 (i b : Nat) (h : dqNth qaX7_findGap_4 i = some b) : DqBy cX7_findGap (64 + i) b := dqBy_of qeX7_findGap ((qsX7_findGap_4 i).trans (dq_in h))
theorem qX7_findGap_5 (i b : Nat) (h : dqNth qaX7_findGap_5 i = some b) : DqBy cX7_findGap (80 + i) b := dqBy_of qeX7_findGap ((qsX7_findGap_5 i).trans (dq_in h))
theorem dX7_findGap_0 : decode cX7_findGap 0 = .ok (.iconst 0, 1) := @dq_o3 cX7_findGap 0 (qX7_findGap_0 0 3 rfl)
theorem dX7_findGap_1 : decode cX7_findGap 1 = .ok (.istore_n 3, 1) := @dq_o62 cX7_findGap 1 (qX7_findGap_0 1 62 rfl)
theorem dX7_findGap_2 : decode cX7_findGap 2 = .ok (.iload_n 3, 1) := @dq_o29 cX7_findGap 2 (qX7_findGap_0 2 29 rfl)
theorem dX7_findGap_3 : decode cX7_findGap 3 = .ok (.aload_n 1, 1) := @dq_o43 cX7_findGap 3 (qX7_findGap_0 3 43 rfl)
theorem dX7_findGap_4 : decode cX7_findGap 4 = .ok (.getfield 61, 3) := @dq_o180 cX7_findGap 4 0 61 (qX7_findGap_0 4 180 rfl) (qX7_findGap_0 5 0 rfl) (qX7_findGap_0 6 61 rfl)
theorem dX7_findGap_7 : decode cX7_findGap 7 = .ok (.if_icmp .ge 86, 3) := @dq_o162 cX7_findGap 7 0 86 (qX7_findGap_0 7 162 rfl) (qX7_findGap_0 8 0 rfl) (qX7_findGap_0 9 86 rfl)
theorem dX7_findGap_10 : decode cX7_findGap 10 = .ok (.aload_n 1, 1) := @dq_o43 cX7_findGap 10 (qX7_findGap_0 10 43 rfl)
theorem dX7_findGap_11 : decode cX7_findGap 11 = .ok (.getfield 71, 3) := @dq_o180 cX7_findGap 11 0 71 (qX7_findGap_0 11 180 rfl) (qX7_findGap_0 12 0 rfl) (qX7_findGap_0 13 71 rfl)
theorem dX7_findGap_14 : decode cX7_findGap 14 = .ok (.iload_n 3, 1) := @dq_o29 cX7_findGap 14 (qX7_findGap_0 14 29 rfl)
theorem dX7_findGap_15 : decode cX7_findGap 15 = .ok (.iaload, 1) := @dq_o46 cX7_findGap 15 (qX7_findGap_0 15 46 rfl)
theorem dX7_findGap_16 : decode cX7_findGap 16 = .ok (.ldc 75, 2) := @dq_o18 cX7_findGap 16 75 (qX7_findGap_1 0 18 rfl) (qX7_findGap_1 1 75 rfl)
theorem dX7_findGap_18 : decode cX7_findGap 18 = .ok (.iand, 1) := @dq_o126 cX7_findGap 18 (qX7_findGap_1 2 126 rfl)
theorem dX7_findGap_19 : decode cX7_findGap 19 = .ok (.istore 4, 2) := @dq_o54 cX7_findGap 19 4 (qX7_findGap_1 3 54 rfl) (qX7_findGap_1 4 4 rfl)
theorem dX7_findGap_21 : decode cX7_findGap 21 = .ok (.aload_n 1, 1) := @dq_o43 cX7_findGap 21 (qX7_findGap_1 5 43 rfl)
theorem dX7_findGap_22 : decode cX7_findGap 22 = .ok (.getfield 71, 3) := @dq_o180 cX7_findGap 22 0 71 (qX7_findGap_1 6 180 rfl) (qX7_findGap_1 7 0 rfl) (qX7_findGap_1 8 71 rfl)
theorem dX7_findGap_25 : decode cX7_findGap 25 = .ok (.iload_n 3, 1) := @dq_o29 cX7_findGap 25 (qX7_findGap_1 9 29 rfl)
theorem dX7_findGap_26 : decode cX7_findGap 26 = .ok (.iaload, 1) := @dq_o46 cX7_findGap 26 (qX7_findGap_1 10 46 rfl)
theorem dX7_findGap_27 : decode cX7_findGap 27 = .ok (.sipush 4095, 3) := @dq_o17 cX7_findGap 27 15 255 (qX7_findGap_1 11 17 rfl) (qX7_findGap_1 12 15 rfl) (qX7_findGap_1 13 255 rfl)
theorem dX7_findGap_30 : decode cX7_findGap 30 = .ok (.iand, 1) := @dq_o126 cX7_findGap 30 (qX7_findGap_1 14 126 rfl)
theorem dX7_findGap_31 : decode cX7_findGap 31 = .ok (.istore 5, 2) := @dq_o54 cX7_findGap 31 5 (qX7_findGap_1 15 54 rfl) (qX7_findGap_2 0 5 rfl)
theorem dX7_findGap_33 : decode cX7_findGap 33 = .ok (.aload_n 2, 1) := @dq_o44 cX7_findGap 33 (qX7_findGap_2 1 44 rfl)
theorem dX7_findGap_34 : decode cX7_findGap 34 = .ok (.iload 5, 2) := @dq_o21 cX7_findGap 34 5 (qX7_findGap_2 2 21 rfl) (qX7_findGap_2 3 5 rfl)
theorem dX7_findGap_36 : decode cX7_findGap 36 = .ok (.bipush 12, 2) := @dq_o16 cX7_findGap 36 12 (qX7_findGap_2 4 16 rfl) (qX7_findGap_2 5 12 rfl)
theorem dX7_findGap_38 : decode cX7_findGap 38 = .ok (.ishl, 1) := @dq_o120 cX7_findGap 38 (qX7_findGap_2 6 120 rfl)
theorem dX7_findGap_39 : decode cX7_findGap 39 = .ok (.aload_n 1, 1) := @dq_o43 cX7_findGap 39 (qX7_findGap_2 7 43 rfl)
theorem dX7_findGap_40 : decode cX7_findGap 40 = .ok (.getfield 76, 3) := @dq_o180 cX7_findGap 40 0 76 (qX7_findGap_2 8 180 rfl) (qX7_findGap_2 9 0 rfl) (qX7_findGap_2 10 76 rfl)
theorem dX7_findGap_43 : decode cX7_findGap 43 = .ok (.iload_n 3, 1) := @dq_o29 cX7_findGap 43 (qX7_findGap_2 11 29 rfl)
theorem dX7_findGap_44 : decode cX7_findGap 44 = .ok (.laload, 1) := @dq_o47 cX7_findGap 44 (qX7_findGap_2 12 47 rfl)
theorem dX7_findGap_45 : decode cX7_findGap 45 = .ok (.iload 4, 2) := @dq_o21 cX7_findGap 45 4 (qX7_findGap_2 13 21 rfl) (qX7_findGap_2 14 4 rfl)
theorem dX7_findGap_47 : decode cX7_findGap 47 = .ok (.invokestatic 79, 3) := @dq_o184 cX7_findGap 47 0 79 (qX7_findGap_2 15 184 rfl) (qX7_findGap_3 0 0 rfl) (qX7_findGap_3 1 79 rfl)
theorem dX7_findGap_50 : decode cX7_findGap 50 = .ok (.aload_n 0, 1) := @dq_o42 cX7_findGap 50 (qX7_findGap_3 2 42 rfl)
theorem dX7_findGap_51 : decode cX7_findGap 51 = .ok (.getfield 27, 3) := @dq_o180 cX7_findGap 51 0 27 (qX7_findGap_3 3 180 rfl) (qX7_findGap_3 4 0 rfl) (qX7_findGap_3 5 27 rfl)
theorem dX7_findGap_54 : decode cX7_findGap 54 = .ok (.invokestatic 83, 3) := @dq_o184 cX7_findGap 54 0 83 (qX7_findGap_3 6 184 rfl) (qX7_findGap_3 7 0 rfl) (qX7_findGap_3 8 83 rfl)
theorem dX7_findGap_57 : decode cX7_findGap 57 = .ok (.lmul, 1) := @dq_o105 cX7_findGap 57 (qX7_findGap_3 9 105 rfl)
theorem dX7_findGap_58 : decode cX7_findGap 58 = .ok (.invokevirtual 87, 3) := @dq_o182 cX7_findGap 58 0 87 (qX7_findGap_3 10 182 rfl) (qX7_findGap_3 11 0 rfl) (qX7_findGap_3 12 87 rfl)
theorem dX7_findGap_61 : decode cX7_findGap 61 = .ok (.aload_n 2, 1) := @dq_o44 cX7_findGap 61 (qX7_findGap_3 13 44 rfl)
theorem dX7_findGap_62 : decode cX7_findGap 62 = .ok (.iload 4, 2) := @dq_o21 cX7_findGap 62 4 (qX7_findGap_3 14 21 rfl) (qX7_findGap_3 15 4 rfl)
theorem dX7_findGap_64 : decode cX7_findGap 64 = .ok (.aload_n 1, 1) := @dq_o43 cX7_findGap 64 (qX7_findGap_4 0 43 rfl)
theorem dX7_findGap_65 : decode cX7_findGap 65 = .ok (.getfield 76, 3) := @dq_o180 cX7_findGap 65 0 76 (qX7_findGap_4 1 180 rfl) (qX7_findGap_4 2 0 rfl) (qX7_findGap_4 3 76 rfl)
theorem dX7_findGap_68 : decode cX7_findGap 68 = .ok (.iload_n 3, 1) := @dq_o29 cX7_findGap 68 (qX7_findGap_4 4 29 rfl)
theorem dX7_findGap_69 : decode cX7_findGap 69 = .ok (.laload, 1) := @dq_o47 cX7_findGap 69 (qX7_findGap_4 5 47 rfl)
theorem dX7_findGap_70 : decode cX7_findGap 70 = .ok (.lneg, 1) := @dq_o117 cX7_findGap 70 (qX7_findGap_4 6 117 rfl)
theorem dX7_findGap_71 : decode cX7_findGap 71 = .ok (.iload 5, 2) := @dq_o21 cX7_findGap 71 5 (qX7_findGap_4 7 21 rfl) (qX7_findGap_4 8 5 rfl)
theorem dX7_findGap_73 : decode cX7_findGap 73 = .ok (.invokestatic 79, 3) := @dq_o184 cX7_findGap 73 0 79 (qX7_findGap_4 9 184 rfl) (qX7_findGap_4 10 0 rfl) (qX7_findGap_4 11 79 rfl)
theorem dX7_findGap_76 : decode cX7_findGap 76 = .ok (.aload_n 0, 1) := @dq_o42 cX7_findGap 76 (qX7_findGap_4 12 42 rfl)
theorem dX7_findGap_77 : decode cX7_findGap 77 = .ok (.getfield 27, 3) := @dq_o180 cX7_findGap 77 0 27 (qX7_findGap_4 13 180 rfl) (qX7_findGap_4 14 0 rfl) (qX7_findGap_4 15 27 rfl)
theorem dX7_findGap_80 : decode cX7_findGap 80 = .ok (.invokestatic 83, 3) := @dq_o184 cX7_findGap 80 0 83 (qX7_findGap_5 0 184 rfl) (qX7_findGap_5 1 0 rfl) (qX7_findGap_5 2 83 rfl)
theorem dX7_findGap_83 : decode cX7_findGap 83 = .ok (.lmul, 1) := @dq_o105 cX7_findGap 83 (qX7_findGap_5 3 105 rfl)
theorem dX7_findGap_84 : decode cX7_findGap 84 = .ok (.invokevirtual 87, 3) := @dq_o182 cX7_findGap 84 0 87 (qX7_findGap_5 4 182 rfl) (qX7_findGap_5 5 0 rfl) (qX7_findGap_5 6 87 rfl)
theorem dX7_findGap_87 : decode cX7_findGap 87 = .ok (.iinc 3 1, 3) := @dq_o132 cX7_findGap 87 3 1 (qX7_findGap_5 7 132 rfl) (qX7_findGap_5 8 3 rfl) (qX7_findGap_5 9 1 rfl)
theorem dX7_findGap_90 : decode cX7_findGap 90 = .ok (.goto (-88), 3) := @dq_o167 cX7_findGap 90 255 168 (qX7_findGap_5 10 167 rfl) (qX7_findGap_5 11 255 rfl) (qX7_findGap_5 12 168 rfl)
theorem dX7_findGap_93 : decode cX7_findGap 93 = .ok (.return_, 1) := @dq_o177 cX7_findGap 93 (qX7_findGap_5 13 177 rfl)
abbrev qaX7_conjugator_0 : List Nat := [42, 44, 45, 182, 0, 91, 42, 9, 182, 0, 95, 3, 54, 5, 3, 54]
abbrev qaX7_conjugator_1 : List Nat := [6, 21, 6, 42, 180, 0, 50, 180, 0, 99, 180, 0, 103, 162, 0, 45]
abbrev qaX7_conjugator_2 : List Nat := [21, 5, 42, 180, 0, 50, 180, 0, 99, 180, 0, 106, 21, 6, 46, 42]
abbrev qaX7_conjugator_3 : List Nat := [180, 0, 50, 180, 0, 99, 182, 0, 109, 162, 0, 7, 4, 167, 0, 4]
abbrev qaX7_conjugator_4 : List Nat := [3, 96, 54, 5, 132, 6, 1, 167, 255, 202, 42, 3, 21, 5, 154, 0]
abbrev qaX7_conjugator_5 : List Nat := [8, 16, 6, 167, 0, 4, 4, 182, 0, 113, 153, 0, 14, 42, 21, 4]
abbrev qaX7_conjugator_6 : List Nat := [21, 5, 182, 0, 117, 154, 0, 5, 3, 172, 42, 180, 0, 37, 43, 184]
abbrev qaX7_conjugator_7 : List Nat := [0, 120, 4, 172]
def qtX7_conjugator_8 : List Nat := []
def qtX7_conjugator_7 : List Nat := qaX7_conjugator_7 ++ qtX7_conjugator_8
def qtX7_conjugator_6 : List Nat := qaX7_conjugator_6 ++ qtX7_conjugator_7
def qtX7_conjugator_5 : List Nat := qaX7_conjugator_5 ++ qtX7_conjugator_6
def qtX7_conjugator_4 : List Nat := qaX7_conjugator_4 ++ qtX7_conjugator_5
def qtX7_conjugator_3 : List Nat := qaX7_conjugator_3 ++ qtX7_conjugator_4
def qtX7_conjugator_2 : List Nat := qaX7_conjugator_2 ++ qtX7_conjugator_3
def qtX7_conjugator_1 : List Nat := qaX7_conjugator_1 ++ qtX7_conjugator_2
def qtX7_conjugator_0 : List Nat := qaX7_conjugator_0 ++ qtX7_conjugator_1
theorem qeX7_conjugator : cX7_conjugator.data.toList.map UInt8.toNat = qtX7_conjugator_0 := by decide +kernel
theorem qsX7_conjugator_0 : ∀ i, dqNth qtX7_conjugator_0 (0 + i) = dqNth qtX7_conjugator_0 i := fun i => by rw [Nat.zero_add]
theorem qsX7_conjugator_1 : ∀ i, dqNth qtX7_conjugator_0 (16 + i) = dqNth qtX7_conjugator_1 i := dq_step qsX7_conjugator_0 rfl rfl
theorem qsX7_conjugator_2 : ∀ i, dqNth qtX7_conjugator_0 (32 + i) = dqNth qtX7_conjugator_2 i := dq_step qsX7_conjugator_1 rfl rfl
theorem qsX7_conjugator_3 : ∀ i, dqNth qtX7_conjugator_0 (48 + i) = dqNth qtX7_conjugator_3 i := dq_step qsX7_conjugator_2 rfl rfl
theorem qsX7_conjugator_4 : ∀ i, dqNth qtX7_conjugator_0 (64 + i) = dqNth qtX7_conjugator_4 i := dq_step qsX7_conjugator_3 rfl rfl
theorem qsX7_conjugator_5 : ∀ i, dqNth qtX7_conjugator_0 (80 + i) = dqNth qtX7_conjugator_5 i := dq_step qsX7_conjugator_4 rfl rfl
theorem qsX7_conjugator_6 : ∀ i, dqNth qtX7_conjugator_0 (96 + i) = dqNth qtX7_conjugator_6 i := dq_step qsX7_conjugator_5 rfl rfl
theorem qsX7_conjugator_7 : ∀ i, dqNth qtX7_conjugator_0 (112 + i) = dqNth qtX7_conjugator_7 i := dq_step qsX7_conjugator_6 rfl rfl
theorem qX7_conjugator_0 (i b : Nat) (h : dqNth qaX7_conjugator_0 i = some b) : DqBy cX7_conjugator (0 + i) b := dqBy_of qeX7_conjugator ((qsX7_conjugator_0 i).trans (dq_in h))
theorem qX7_conjugator_1 (i b : Nat) (h : dqNth qaX7_conjugator_1 i = some b) : DqBy cX7_conjugator (16 + i) b := dqBy_of qeX7_conjugator ((qsX7_conjugator_1 i).trans (dq_in h))
theorem qX7_conjugator_2 (i b : Nat) (h : dqNth qaX7_conjugator_2 i = some b) : DqBy cX7_conjugator (32 + i) b := dqBy_of qeX7_conjugator ((qsX7_conjugator_2 i).trans (dq_in h))
theorem qX7_conjugator_3 (i b : Nat) (h : dqNth qaX7_conjugator_3 i = some b) : DqBy cX7_conjugator (48 + i) b := dqBy_of qeX7_conjugator ((qsX7_conjugator_3 i).trans (dq_in h))
theorem qX7_conjugator_4 (i b : Nat) (h : dqNth qaX7_conjugator_4 i = some b) : DqBy cX7_conjugator (64 + i) b := dqBy_of qeX7_conjugator ((qsX7_conjugator_4 i).trans (dq_in h))
theorem qX7_conjugator_5 (i b : Nat) (h : dqNth qaX7_conjugator_5 i = some b) : DqBy cX7_conjugator (80 + i) b := dqBy_of qeX7_conjugator ((qsX7_conjugator_5 i).trans (dq_in h))
theorem qX7_conjugator_6 (i b : Nat) (h : dqNth qaX7_conjugator_6 i = some b) : DqBy cX7_conjugator (96 + i) b := dqBy_of qeX7_conjugator ((qsX7_conjugator_6 i).trans (dq_in h))
theorem qX7_conjugator_7 (i b : Nat) (h : dqNth qaX7_conjugator_7 i = some b) : DqBy cX7_conjugator (112 + i) b := dqBy_of qeX7_conjugator ((qsX7_conjugator_7 i).trans (dq_in h))
theorem dX7_conjugator_0 : decode cX7_conjugator 0 = .ok (.aload_n 0, 1) := @dq_o42 cX7_conjugator 0 (qX7_conjugator_0 0 42 rfl)
theorem dX7_conjugator_1 : decode cX7_conjugator 1 = .ok (.aload_n 2, 1) := @dq_o44 cX7_conjugator 1 (qX7_conjugator_0 1 44 rfl)
theorem dX7_conjugator_2 : decode cX7_conjugator 2 = .ok (.aload_n 3, 1) := @dq_o45 cX7_conjugator 2 (qX7_conjugator_0 2 45 rfl)
theorem dX7_conjugator_3 : decode cX7_conjugator 3 = .ok (.invokevirtual 91, 3) := @dq_o182 cX7_conjugator 3 0 91 (qX7_conjugator_0 3 182 rfl) (qX7_conjugator_0 4 0 rfl) (qX7_conjugator_0 5 91 rfl)
theorem dX7_conjugator_6 : decode cX7_conjugator 6 = .ok (.aload_n 0, 1) := @dq_o42 cX7_conjugator 6 (qX7_conjugator_0 6 42 rfl)
theorem dX7_conjugator_7 : decode cX7_conjugator 7 = .ok (.lconst 0, 1) := @dq_o9 cX7_conjugator 7 (qX7_conjugator_0 7 9 rfl)
theorem dX7_conjugator_8 : decode cX7_conjugator 8 = .ok (.invokevirtual 95, 3) := @dq_o182 cX7_conjugator 8 0 95 (qX7_conjugator_0 8 182 rfl) (qX7_conjugator_0 9 0 rfl) (qX7_conjugator_0 10 95 rfl)
theorem dX7_conjugator_11 : decode cX7_conjugator 11 = .ok (.iconst 0, 1) := @dq_o3 cX7_conjugator 11 (qX7_conjugator_0 11 3 rfl)
theorem dX7_conjugator_12 : decode cX7_conjugator 12 = .ok (.istore 5, 2) := @dq_o54 cX7_conjugator 12 5 (qX7_conjugator_0 12 54 rfl) (qX7_conjugator_0 13 5 rfl)
theorem dX7_conjugator_14 : decode cX7_conjugator 14 = .ok (.iconst 0, 1) := @dq_o3 cX7_conjugator 14 (qX7_conjugator_0 14 3 rfl)
theorem dX7_conjugator_15 : decode cX7_conjugator 15 = .ok (.istore 6, 2) := @dq_o54 cX7_conjugator 15 6 (qX7_conjugator_0 15 54 rfl) (qX7_conjugator_1 0 6 rfl)
theorem dX7_conjugator_17 : decode cX7_conjugator 17 = .ok (.iload 6, 2) := @dq_o21 cX7_conjugator 17 6 (qX7_conjugator_1 1 21 rfl) (qX7_conjugator_1 2 6 rfl)
theorem dX7_conjugator_19 : decode cX7_conjugator 19 = .ok (.aload_n 0, 1) := @dq_o42 cX7_conjugator 19 (qX7_conjugator_1 3 42 rfl)
theorem dX7_conjugator_20 : decode cX7_conjugator 20 = .ok (.getfield 50, 3) := @dq_o180 cX7_conjugator 20 0 50 (qX7_conjugator_1 4 180 rfl) (qX7_conjugator_1 5 0 rfl) (qX7_conjugator_1 6 50 rfl)
theorem dX7_conjugator_23 : decode cX7_conjugator 23 = .ok (.getfield 99, 3) := @dq_o180 cX7_conjugator 23 0 99 (qX7_conjugator_1 7 180 rfl) (qX7_conjugator_1 8 0 rfl) (qX7_conjugator_1 9 99 rfl)
theorem dX7_conjugator_26 : decode cX7_conjugator 26 = .ok (.getfield 103, 3) := @dq_o180 cX7_conjugator 26 0 103 (qX7_conjugator_1 10 180 rfl) (qX7_conjugator_1 11 0 rfl) (qX7_conjugator_1 12 103 rfl)
theorem dX7_conjugator_29 : decode cX7_conjugator 29 = .ok (.if_icmp .ge 45, 3) := @dq_o162 cX7_conjugator 29 0 45 (qX7_conjugator_1 13 162 rfl) (qX7_conjugator_1 14 0 rfl) (qX7_conjugator_1 15 45 rfl)
theorem dX7_conjugator_32 : decode cX7_conjugator 32 = .ok (.iload 5, 2) := @dq_o21 cX7_conjugator 32 5 (qX7_conjugator_2 0 21 rfl) (qX7_conjugator_2 1 5 rfl)
theorem dX7_conjugator_34 : decode cX7_conjugator 34 = .ok (.aload_n 0, 1) := @dq_o42 cX7_conjugator 34 (qX7_conjugator_2 2 42 rfl)
theorem dX7_conjugator_35 : decode cX7_conjugator 35 = .ok (.getfield 50, 3) := @dq_o180 cX7_conjugator 35 0 50 (qX7_conjugator_2 3 180 rfl) (qX7_conjugator_2 4 0 rfl) (qX7_conjugator_2 5 50 rfl)
theorem dX7_conjugator_38 : decode cX7_conjugator 38 = .ok (.getfield 99, 3) := @dq_o180 cX7_conjugator 38 0 99 (qX7_conjugator_2 6 180 rfl) (qX7_conjugator_2 7 0 rfl) (qX7_conjugator_2 8 99 rfl)
theorem dX7_conjugator_41 : decode cX7_conjugator 41 = .ok (.getfield 106, 3) := @dq_o180 cX7_conjugator 41 0 106 (qX7_conjugator_2 9 180 rfl) (qX7_conjugator_2 10 0 rfl) (qX7_conjugator_2 11 106 rfl)
theorem dX7_conjugator_44 : decode cX7_conjugator 44 = .ok (.iload 6, 2) := @dq_o21 cX7_conjugator 44 6 (qX7_conjugator_2 12 21 rfl) (qX7_conjugator_2 13 6 rfl)
theorem dX7_conjugator_46 : decode cX7_conjugator 46 = .ok (.iaload, 1) := @dq_o46 cX7_conjugator 46 (qX7_conjugator_2 14 46 rfl)
theorem dX7_conjugator_47 : decode cX7_conjugator 47 = .ok (.aload_n 0, 1) := @dq_o42 cX7_conjugator 47 (qX7_conjugator_2 15 42 rfl)
theorem dX7_conjugator_48 : decode cX7_conjugator 48 = .ok (.getfield 50, 3) := @dq_o180 cX7_conjugator 48 0 50 (qX7_conjugator_3 0 180 rfl) (qX7_conjugator_3 1 0 rfl) (qX7_conjugator_3 2 50 rfl)
theorem dX7_conjugator_51 : decode cX7_conjugator 51 = .ok (.getfield 99, 3) := @dq_o180 cX7_conjugator 51 0 99 (qX7_conjugator_3 3 180 rfl) (qX7_conjugator_3 4 0 rfl) (qX7_conjugator_3 5 99 rfl)
theorem dX7_conjugator_54 : decode cX7_conjugator 54 = .ok (.invokevirtual 109, 3) := @dq_o182 cX7_conjugator 54 0 109 (qX7_conjugator_3 6 182 rfl) (qX7_conjugator_3 7 0 rfl) (qX7_conjugator_3 8 109 rfl)
theorem dX7_conjugator_57 : decode cX7_conjugator 57 = .ok (.if_icmp .ge 7, 3) := @dq_o162 cX7_conjugator 57 0 7 (qX7_conjugator_3 9 162 rfl) (qX7_conjugator_3 10 0 rfl) (qX7_conjugator_3 11 7 rfl)
theorem dX7_conjugator_60 : decode cX7_conjugator 60 = .ok (.iconst 1, 1) := @dq_o4 cX7_conjugator 60 (qX7_conjugator_3 12 4 rfl)
theorem dX7_conjugator_61 : decode cX7_conjugator 61 = .ok (.goto 4, 3) := @dq_o167 cX7_conjugator 61 0 4 (qX7_conjugator_3 13 167 rfl) (qX7_conjugator_3 14 0 rfl) (qX7_conjugator_3 15 4 rfl)
theorem dX7_conjugator_64 : decode cX7_conjugator 64 = .ok (.iconst 0, 1) := @dq_o3 cX7_conjugator 64 (qX7_conjugator_4 0 3 rfl)
theorem dX7_conjugator_65 : decode cX7_conjugator 65 = .ok (.iadd, 1) := @dq_o96 cX7_conjugator 65 (qX7_conjugator_4 1 96 rfl)
theorem dX7_conjugator_66 : decode cX7_conjugator 66 = .ok (.istore 5, 2) := @dq_o54 cX7_conjugator 66 5 (qX7_conjugator_4 2 54 rfl) (qX7_conjugator_4 3 5 rfl)
theorem dX7_conjugator_68 : decode cX7_conjugator 68 = .ok (.iinc 6 1, 3) := @dq_o132 cX7_conjugator 68 6 1 (qX7_conjugator_4 4 132 rfl) (qX7_conjugator_4 5 6 rfl) (qX7_conjugator_4 6 1 rfl)
theorem dX7_conjugator_71 : decode cX7_conjugator 71 = .ok (.goto (-54), 3) := @dq_o167 cX7_conjugator 71 255 202 (qX7_conjugator_4 7 167 rfl) (qX7_conjugator_4 8 255 rfl) (qX7_conjugator_4 9 202 rfl)
theorem dX7_conjugator_74 : decode cX7_conjugator 74 = .ok (.aload_n 0, 1) := @dq_o42 cX7_conjugator 74 (qX7_conjugator_4 10 42 rfl)
theorem dX7_conjugator_75 : decode cX7_conjugator 75 = .ok (.iconst 0, 1) := @dq_o3 cX7_conjugator 75 (qX7_conjugator_4 11 3 rfl)
theorem dX7_conjugator_76 : decode cX7_conjugator 76 = .ok (.iload 5, 2) := @dq_o21 cX7_conjugator 76 5 (qX7_conjugator_4 12 21 rfl) (qX7_conjugator_4 13 5 rfl)
theorem dX7_conjugator_78 : decode cX7_conjugator 78 = .ok (.ifCond .ne 8, 3) := @dq_o154 cX7_conjugator 78 0 8 (qX7_conjugator_4 14 154 rfl) (qX7_conjugator_4 15 0 rfl) (qX7_conjugator_5 0 8 rfl)
theorem dX7_conjugator_81 : decode cX7_conjugator 81 = .ok (.bipush 6, 2) := @dq_o16 cX7_conjugator 81 6 (qX7_conjugator_5 1 16 rfl) (qX7_conjugator_5 2 6 rfl)
theorem dX7_conjugator_83 : decode cX7_conjugator 83 = .ok (.goto 4, 3) := @dq_o167 cX7_conjugator 83 0 4 (qX7_conjugator_5 3 167 rfl) (qX7_conjugator_5 4 0 rfl) (qX7_conjugator_5 5 4 rfl)
theorem dX7_conjugator_86 : decode cX7_conjugator 86 = .ok (.iconst 1, 1) := @dq_o4 cX7_conjugator 86 (qX7_conjugator_5 6 4 rfl)
theorem dX7_conjugator_87 : decode cX7_conjugator 87 = .ok (.invokevirtual 113, 3) := @dq_o182 cX7_conjugator 87 0 113 (qX7_conjugator_5 7 182 rfl) (qX7_conjugator_5 8 0 rfl) (qX7_conjugator_5 9 113 rfl)
theorem dX7_conjugator_90 : decode cX7_conjugator 90 = .ok (.ifCond .eq 14, 3) := @dq_o153 cX7_conjugator 90 0 14 (qX7_conjugator_5 10 153 rfl) (qX7_conjugator_5 11 0 rfl) (qX7_conjugator_5 12 14 rfl)
theorem dX7_conjugator_93 : decode cX7_conjugator 93 = .ok (.aload_n 0, 1) := @dq_o42 cX7_conjugator 93 (qX7_conjugator_5 13 42 rfl)
theorem dX7_conjugator_94 : decode cX7_conjugator 94 = .ok (.iload 4, 2) := @dq_o21 cX7_conjugator 94 4 (qX7_conjugator_5 14 21 rfl) (qX7_conjugator_5 15 4 rfl)
theorem dX7_conjugator_96 : decode cX7_conjugator 96 = .ok (.iload 5, 2) := @dq_o21 cX7_conjugator 96 5 (qX7_conjugator_6 0 21 rfl) (qX7_conjugator_6 1 5 rfl)
theorem dX7_conjugator_98 : decode cX7_conjugator 98 = .ok (.invokevirtual 117, 3) := @dq_o182 cX7_conjugator 98 0 117 (qX7_conjugator_6 2 182 rfl) (qX7_conjugator_6 3 0 rfl) (qX7_conjugator_6 4 117 rfl)
theorem dX7_conjugator_101 : decode cX7_conjugator 101 = .ok (.ifCond .ne 5, 3) := @dq_o154 cX7_conjugator 101 0 5 (qX7_conjugator_6 5 154 rfl) (qX7_conjugator_6 6 0 rfl) (qX7_conjugator_6 7 5 rfl)
theorem dX7_conjugator_104 : decode cX7_conjugator 104 = .ok (.iconst 0, 1) := @dq_o3 cX7_conjugator 104 (qX7_conjugator_6 8 3 rfl)
theorem dX7_conjugator_105 : decode cX7_conjugator 105 = .ok (.ireturn, 1) := @dq_o172 cX7_conjugator 105 (qX7_conjugator_6 9 172 rfl)
theorem dX7_conjugator_106 : decode cX7_conjugator 106 = .ok (.aload_n 0, 1) := @dq_o42 cX7_conjugator 106 (qX7_conjugator_6 10 42 rfl)
theorem dX7_conjugator_107 : decode cX7_conjugator 107 = .ok (.getfield 37, 3) := @dq_o180 cX7_conjugator 107 0 37 (qX7_conjugator_6 11 180 rfl) (qX7_conjugator_6 12 0 rfl) (qX7_conjugator_6 13 37 rfl)
theorem dX7_conjugator_110 : decode cX7_conjugator 110 = .ok (.aload_n 1, 1) := @dq_o43 cX7_conjugator 110 (qX7_conjugator_6 14 43 rfl)
theorem dX7_conjugator_111 : decode cX7_conjugator 111 = .ok (.invokestatic 120, 3) := @dq_o184 cX7_conjugator 111 0 120 (qX7_conjugator_6 15 184 rfl) (qX7_conjugator_7 0 0 rfl) (qX7_conjugator_7 1 120 rfl)
theorem dX7_conjugator_114 : decode cX7_conjugator 114 = .ok (.iconst 1, 1) := @dq_o4 cX7_conjugator 114 (qX7_conjugator_7 2 4 rfl)
theorem dX7_conjugator_115 : decode cX7_conjugator 115 = .ok (.ireturn, 1) := @dq_o172 cX7_conjugator 115 (qX7_conjugator_7 3 172 rfl)
abbrev qaX7_findWithin_0 : List Nat := [3, 62, 42, 3, 28, 154, 0, 7, 9, 167, 0, 6, 27, 116, 133, 182]
abbrev qaX7_findWithin_1 : List Nat := [0, 125, 3, 54, 4, 21, 4, 18, 128, 162, 0, 108, 29, 28, 162, 0]
abbrev qaX7_findWithin_2 : List Nat := [103, 42, 180, 0, 37, 29, 47, 27, 133, 148, 158, 0, 28, 132, 3, 255]
abbrev qaX7_findWithin_3 : List Nat := [29, 156, 0, 5, 3, 172, 42, 29, 42, 180, 0, 37, 29, 47, 10, 97]
abbrev qaX7_findWithin_4 : List Nat := [182, 0, 125, 167, 0, 60, 42, 29, 4, 96, 29, 4, 96, 28, 160, 0]
abbrev qaX7_findWithin_5 : List Nat := [8, 16, 6, 167, 0, 6, 29, 5, 96, 182, 0, 113, 154, 0, 19, 42]
abbrev qaX7_findWithin_6 : List Nat := [29, 42, 180, 0, 37, 29, 47, 10, 97, 182, 0, 125, 167, 0, 19, 132]
abbrev qaX7_findWithin_7 : List Nat := [3, 1, 29, 28, 162, 0, 11, 42, 29, 27, 116, 133, 182, 0, 125, 132]
abbrev qaX7_findWithin_8 : List Nat := [4, 1, 167, 255, 147, 29, 28, 161, 0, 7, 4, 167, 0, 4, 3, 172]
def qtX7_findWithin_9 : List Nat := []
def qtX7_findWithin_8 : List Nat := qaX7_findWithin_8 ++ qtX7_findWithin_9
def qtX7_findWithin_7 : List Nat := qaX7_findWithin_7 ++ qtX7_findWithin_8
def qtX7_findWithin_6 : List Nat := qaX7_findWithin_6 ++ qtX7_findWithin_7
def qtX7_findWithin_5 : List Nat := qaX7_findWithin_5 ++ qtX7_findWithin_6
def qtX7_findWithin_4 : List Nat := qaX7_findWithin_4 ++ qtX7_findWithin_5
def qtX7_findWithin_3 : List Nat := qaX7_findWithin_3 ++ qtX7_findWithin_4
def qtX7_findWithin_2 : List Nat := qaX7_findWithin_2 ++ qtX7_findWithin_3
def qtX7_findWithin_1 : List Nat := qaX7_findWithin_1 ++ qtX7_findWithin_2
def qtX7_findWithin_0 : List Nat := qaX7_findWithin_0 ++ qtX7_findWithin_1
theorem qeX7_findWithin : cX7_findWithin.data.toList.map UInt8.toNat = qtX7_findWithin_0 := by decide +kernel
theorem qsX7_findWithin_0 : ∀ i, dqNth qtX7_findWithin_0 (0 + i) = dqNth qtX7_findWithin_0 i := fun i => by rw [Nat.zero_add]
theorem qsX7_findWithin_1 : ∀ i, dqNth qtX7_findWithin_0 (16 + i) = dqNth qtX7_findWithin_1 i := dq_step qsX7_findWithin_0 rfl rfl
theorem qsX7_findWithin_2 : ∀ i, dqNth qtX7_findWithin_0 (32 + i) = dqNth qtX7_findWithin_2 i := dq_step qsX7_findWithin_1 rfl rfl
theorem qsX7_findWithin_3 : ∀ i, dqNth qtX7_findWithin_0 (48 + i) = dqNth qtX7_findWithin_3 i := dq_step qsX7_findWithin_2 rfl rfl
theorem qsX7_findWithin_4 : ∀ i, dqNth qtX7_findWithin_0 (64 + i) = dqNth qtX7_findWithin_4 i := dq_step qsX7_findWithin_3 rfl rfl
theorem qsX7_findWithin_5 : ∀ i, dqNth qtX7_findWithin_0 (80 + i) = dqNth qtX7_findWithin_5 i := dq_step qsX7_findWithin_4 rfl rfl
theorem qsX7_findWithin_6 : ∀ i, dqNth qtX7_findWithin_0 (96 + i) = dqNth qtX7_findWithin_6 i := dq_step qsX7_findWithin_5 rfl rfl
theorem qsX7_findWithin_7 : ∀ i, dqNth qtX7_findWithin_0 (112 + i) = dqNth qtX7_findWithin_7 i := dq_step qsX7_findWithin_6 rfl rfl
theorem qsX7_findWithin_8 : ∀ i, dqNth qtX7_findWithin_0 (128 + i) = dqNth qtX7_findWithin_8 i := dq_step qsX7_findWithin_7 rfl rfl
theorem qX7_findWithin_0 (i b : Nat) (h : dqNth qaX7_findWithin_0 i = some b) : DqBy cX7_findWithin (0 + i) b := dqBy_of qeX7_findWithin ((qsX7_findWithin_0 i).trans (dq_in h))
theorem qX7_findWithin_1 (i b : Nat) (h : dqNth qaX7_findWithin_1 i = some b) : DqBy cX7_findWithin (16 + i) b := dqBy_of qeX7_findWithin ((qsX7_findWithin_1 i).trans (dq_in h))
theorem qX7_findWithin_2 (i b : Nat) (h : dqNth qaX7_findWithin_2 i = some b) : DqBy cX7_findWithin (32 + i) b := dqBy_of qeX7_findWithin ((qsX7_findWithin_2 i).trans (dq_in h))
theorem qX7_findWithin_3 (i b : Nat) (h : dqNth qaX7_findWithin_3 i = some b) : DqBy cX7_findWithin (48 + i) b := dqBy_of qeX7_findWithin ((qsX7_findWithin_3 i).trans (dq_in h))
theorem qX7_findWithin_4 (i b : Nat) (h : dqNth qaX7_findWithin_4 i = some b) : DqBy cX7_findWithin (64 + i) b := dqBy_of qeX7_findWithin ((qsX7_findWithin_4 i).trans (dq_in h))
theorem qX7_findWithin_5 (i b : Nat) (h : dqNth qaX7_findWithin_5 i = some b) : DqBy cX7_findWithin (80 + i) b := dqBy_of qeX7_findWithin ((qsX7_findWithin_5 i).trans (dq_in h))
theorem qX7_findWithin_6 (i b : Nat) (h : dqNth qaX7_findWithin_6 i = some b) : DqBy cX7_findWithin (96 + i) b := dqBy_of qeX7_findWithin ((qsX7_findWithin_6 i).trans (dq_in h))
theorem qX7_findWithin_7 (i b : Nat) (h : dqNth qaX7_findWithin_7 i = some b) : DqBy cX7_findWithin (112 + i) b := dqBy_of qeX7_findWithin ((qsX7_findWithin_7 i).trans (dq_in h))
theorem qX7_findWithin_8 (i b : Nat) (h : dqNth qaX7_findWithin_8 i = some b) : DqBy cX7_findWithin (128 + i) b := dqBy_of qeX7_findWithin ((qsX7_findWithin_8 i).trans (dq_in h))
theorem dX7_findWithin_0 : decode cX7_findWithin 0 = .ok (.iconst 0, 1) := @dq_o3 cX7_findWithin 0 (qX7_findWithin_0 0 3 rfl)
theorem dX7_findWithin_1 : decode cX7_findWithin 1 = .ok (.istore_n 3, 1) := @dq_o62 cX7_findWithin 1 (qX7_findWithin_0 1 62 rfl)
theorem dX7_findWithin_2 : decode cX7_findWithin 2 = .ok (.aload_n 0, 1) := @dq_o42 cX7_findWithin 2 (qX7_findWithin_0 2 42 rfl)
theorem dX7_findWithin_3 : decode cX7_findWithin 3 = .ok (.iconst 0, 1) := @dq_o3 cX7_findWithin 3 (qX7_findWithin_0 3 3 rfl)
theorem dX7_findWithin_4 : decode cX7_findWithin 4 = .ok (.iload_n 2, 1) := @dq_o28 cX7_findWithin 4 (qX7_findWithin_0 4 28 rfl)
theorem dX7_findWithin_5 : decode cX7_findWithin 5 = .ok (.ifCond .ne 7, 3) := @dq_o154 cX7_findWithin 5 0 7 (qX7_findWithin_0 5 154 rfl) (qX7_findWithin_0 6 0 rfl) (qX7_findWithin_0 7 7 rfl)
theorem dX7_findWithin_8 : decode cX7_findWithin 8 = .ok (.lconst 0, 1) := @dq_o9 cX7_findWithin 8 (qX7_findWithin_0 8 9 rfl)
theorem dX7_findWithin_9 : decode cX7_findWithin 9 = .ok (.goto 6, 3) := @dq_o167 cX7_findWithin 9 0 6 (qX7_findWithin_0 9 167 rfl) (qX7_findWithin_0 10 0 rfl) (qX7_findWithin_0 11 6 rfl)
theorem dX7_findWithin_12 : decode cX7_findWithin 12 = .ok (.iload_n 1, 1) := @dq_o27 cX7_findWithin 12 (qX7_findWithin_0 12 27 rfl)
theorem dX7_findWithin_13 : decode cX7_findWithin 13 = .ok (.ineg, 1) := @dq_o116 cX7_findWithin 13 (qX7_findWithin_0 13 116 rfl)
theorem dX7_findWithin_14 : decode cX7_findWithin 14 = .ok (.i2l, 1) := @dq_o133 cX7_findWithin 14 (qX7_findWithin_0 14 133 rfl)
theorem dX7_findWithin_15 : decode cX7_findWithin 15 = .ok (.invokevirtual 125, 3) := @dq_o182 cX7_findWithin 15 0 125 (qX7_findWithin_0 15 182 rfl) (qX7_findWithin_1 0 0 rfl) (qX7_findWithin_1 1 125 rfl)
theorem dX7_findWithin_18 : decode cX7_findWithin 18 = .ok (.iconst 0, 1) := @dq_o3 cX7_findWithin 18 (qX7_findWithin_1 2 3 rfl)
theorem dX7_findWithin_19 : decode cX7_findWithin 19 = .ok (.istore 4, 2) := @dq_o54 cX7_findWithin 19 4 (qX7_findWithin_1 3 54 rfl) (qX7_findWithin_1 4 4 rfl)
theorem dX7_findWithin_21 : decode cX7_findWithin 21 = .ok (.iload 4, 2) := @dq_o21 cX7_findWithin 21 4 (qX7_findWithin_1 5 21 rfl) (qX7_findWithin_1 6 4 rfl)
theorem dX7_findWithin_23 : decode cX7_findWithin 23 = .ok (.ldc 128, 2) := @dq_o18 cX7_findWithin 23 128 (qX7_findWithin_1 7 18 rfl) (qX7_findWithin_1 8 128 rfl)
theorem dX7_findWithin_25 : decode cX7_findWithin 25 = .ok (.if_icmp .ge 108, 3) := @dq_o162 cX7_findWithin 25 0 108 (qX7_findWithin_1 9 162 rfl) (qX7_findWithin_1 10 0 rfl) (qX7_findWithin_1 11 108 rfl)
theorem dX7_findWithin_28 : decode cX7_findWithin 28 = .ok (.iload_n 3, 1) := @dq_o29 cX7_findWithin 28 (qX7_findWithin_1 12 29 rfl)
theorem dX7_findWithin_29 : decode cX7_findWithin 29 = .ok (.iload_n 2, 1) := @dq_o28 cX7_findWithin 29 (qX7_findWithin_1 13 28 rfl)
theorem dX7_findWithin_30 : decode cX7_findWithin 30 = .ok (.if_icmp .ge 103, 3) := @dq_o162 cX7_findWithin 30 0 103 (qX7_findWithin_1 14 162 rfl) (qX7_findWithin_1 15 0 rfl) (qX7_findWithin_2 0 103 rfl)
theorem dX7_findWithin_33 : decode cX7_findWithin 33 = .ok (.aload_n 0, 1) := @dq_o42 cX7_findWithin 33 (qX7_findWithin_2 1 42 rfl)
theorem dX7_findWithin_34 : decode cX7_findWithin 34 = .ok (.getfield 37, 3) := @dq_o180 cX7_findWithin 34 0 37 (qX7_findWithin_2 2 180 rfl) (qX7_findWithin_2 3 0 rfl) (qX7_findWithin_2 4 37 rfl)
theorem dX7_findWithin_37 : decode cX7_findWithin 37 = .ok (.iload_n 3, 1) := @dq_o29 cX7_findWithin 37 (qX7_findWithin_2 5 29 rfl)
theorem dX7_findWithin_38 : decode cX7_findWithin 38 = .ok (.laload, 1) := @dq_o47 cX7_findWithin 38 (qX7_findWithin_2 6 47 rfl)
theorem dX7_findWithin_39 : decode cX7_findWithin 39 = .ok (.iload_n 1, 1) := @dq_o27 cX7_findWithin 39 (qX7_findWithin_2 7 27 rfl)
theorem dX7_findWithin_40 : decode cX7_findWithin 40 = .ok (.i2l, 1) := @dq_o133 cX7_findWithin 40 (qX7_findWithin_2 8 133 rfl)
theorem dX7_findWithin_41 : decode cX7_findWithin 41 = .ok (.lcmp, 1) := @dq_o148 cX7_findWithin 41 (qX7_findWithin_2 9 148 rfl)
theorem dX7_findWithin_42 : decode cX7_findWithin 42 = .ok (.ifCond .le 28, 3) := @dq_o158 cX7_findWithin 42 0 28 (qX7_findWithin_2 10 158 rfl) (qX7_findWithin_2 11 0 rfl) (qX7_findWithin_2 12 28 rfl)
theorem dX7_findWithin_45 : decode cX7_findWithin 45 = .ok (.iinc 3 (-1), 3) := @dq_o132 cX7_findWithin 45 3 255 (qX7_findWithin_2 13 132 rfl) (qX7_findWithin_2 14 3 rfl) (qX7_findWithin_2 15 255 rfl)
theorem dX7_findWithin_48 : decode cX7_findWithin 48 = .ok (.iload_n 3, 1) := @dq_o29 cX7_findWithin 48 (qX7_findWithin_3 0 29 rfl)
theorem dX7_findWithin_49 : decode cX7_findWithin 49 = .ok (.ifCond .ge 5, 3) := @dq_o156 cX7_findWithin 49 0 5 (qX7_findWithin_3 1 156 rfl) (qX7_findWithin_3 2 0 rfl) (qX7_findWithin_3 3 5 rfl)
theorem dX7_findWithin_52 : decode cX7_findWithin 52 = .ok (.iconst 0, 1) := @dq_o3 cX7_findWithin 52 (qX7_findWithin_3 4 3 rfl)
theorem dX7_findWithin_53 : decode cX7_findWithin 53 = .ok (.ireturn, 1) := @dq_o172 cX7_findWithin 53 (qX7_findWithin_3 5 172 rfl)
theorem dX7_findWithin_54 : decode cX7_findWithin 54 = .ok (.aload_n 0, 1) := @dq_o42 cX7_findWithin 54 (qX7_findWithin_3 6 42 rfl)
theorem dX7_findWithin_55 : decode cX7_findWithin 55 = .ok (.iload_n 3, 1) := @dq_o29 cX7_findWithin 55 (qX7_findWithin_3 7 29 rfl)
theorem dX7_findWithin_56 : decode cX7_findWithin 56 = .ok (.aload_n 0, 1) := @dq_o42 cX7_findWithin 56 (qX7_findWithin_3 8 42 rfl)
theorem dX7_findWithin_57 : decode cX7_findWithin 57 = .ok (.getfield 37, 3) := @dq_o180 cX7_findWithin 57 0 37 (qX7_findWithin_3 9 180 rfl) (qX7_findWithin_3 10 0 rfl) (qX7_findWithin_3 11 37 rfl)
theorem dX7_findWithin_60 : decode cX7_findWithin 60 = .ok (.iload_n 3, 1) := @dq_o29 cX7_findWithin 60 (qX7_findWithin_3 12 29 rfl)
theorem dX7_findWithin_61 : decode cX7_findWithin 61 = .ok (.laload, 1) := @dq_o47 cX7_findWithin 61 (qX7_findWithin_3 13 47 rfl)
theorem dX7_findWithin_62 : decode cX7_findWithin 62 = .ok (.lconst 1, 1) := @dq_o10 cX7_findWithin 62 (qX7_findWithin_3 14 10 rfl)
theorem dX7_findWithin_63 : decode cX7_findWithin 63 = .ok (.ladd, 1) := @dq_o97 cX7_findWithin 63 (qX7_findWithin_3 15 97 rfl)
theorem dX7_findWithin_64 : decode cX7_findWithin 64 = .ok (.invokevirtual 125, 3) := @dq_o182 cX7_findWithin 64 0 125 (qX7_findWithin_4 0 182 rfl) (qX7_findWithin_4 1 0 rfl) (qX7_findWithin_4 2 125 rfl)
theorem dX7_findWithin_67 : decode cX7_findWithin 67 = .ok (.goto 60, 3) := @dq_o167 cX7_findWithin 67 0 60 (qX7_findWithin_4 3 167 rfl) (qX7_findWithin_4 4 0 rfl) (qX7_findWithin_4 5 60 rfl)
theorem dX7_findWithin_70 : decode cX7_findWithin 70 = .ok (.aload_n 0, 1) := @dq_o42 cX7_findWithin 70 (qX7_findWithin_4 6 42 rfl)
theorem dX7_findWithin_71 : decode cX7_findWithin 71 = .ok (.iload_n 3, 1) := @dq_o29 cX7_findWithin 71 (qX7_findWithin_4 7 29 rfl)
theorem dX7_findWithin_72 : decode cX7_findWithin 72 = .ok (.iconst 1, 1) := @dq_o4 cX7_findWithin 72 (qX7_findWithin_4 8 4 rfl)
theorem dX7_findWithin_73 : decode cX7_findWithin 73 = .ok (.iadd, 1) := @dq_o96 cX7_findWithin 73 (qX7_findWithin_4 9 96 rfl)
theorem dX7_findWithin_74 : decode cX7_findWithin 74 = .ok (.iload_n 3, 1) := @dq_o29 cX7_findWithin 74 (qX7_findWithin_4 10 29 rfl)
theorem dX7_findWithin_75 : decode cX7_findWithin 75 = .ok (.iconst 1, 1) := @dq_o4 cX7_findWithin 75 (qX7_findWithin_4 11 4 rfl)
theorem dX7_findWithin_76 : decode cX7_findWithin 76 = .ok (.iadd, 1) := @dq_o96 cX7_findWithin 76 (qX7_findWithin_4 12 96 rfl)
theorem dX7_findWithin_77 : decode cX7_findWithin 77 = .ok (.iload_n 2, 1) := @dq_o28 cX7_findWithin 77 (qX7_findWithin_4 13 28 rfl)
theorem dX7_findWithin_78 : decode cX7_findWithin 78 = .ok (.if_icmp .ne 8, 3) := @dq_o160 cX7_findWithin 78 0 8 (qX7_findWithin_4 14 160 rfl) (qX7_findWithin_4 15 0 rfl) (qX7_findWithin_5 0 8 rfl)
theorem dX7_findWithin_81 : decode cX7_findWithin 81 = .ok (.bipush 6, 2) := @dq_o16 cX7_findWithin 81 6 (qX7_findWithin_5 1 16 rfl) (qX7_findWithin_5 2 6 rfl)
theorem dX7_findWithin_83 : decode cX7_findWithin 83 = .ok (.goto 6, 3) := @dq_o167 cX7_findWithin 83 0 6 (qX7_findWithin_5 3 167 rfl) (qX7_findWithin_5 4 0 rfl) (qX7_findWithin_5 5 6 rfl)
theorem dX7_findWithin_86 : decode cX7_findWithin 86 = .ok (.iload_n 3, 1) := @dq_o29 cX7_findWithin 86 (qX7_findWithin_5 6 29 rfl)
theorem dX7_findWithin_87 : decode cX7_findWithin 87 = .ok (.iconst 2, 1) := @dq_o5 cX7_findWithin 87 (qX7_findWithin_5 7 5 rfl)
theorem dX7_findWithin_88 : decode cX7_findWithin 88 = .ok (.iadd, 1) := @dq_o96 cX7_findWithin 88 (qX7_findWithin_5 8 96 rfl)
theorem dX7_findWithin_89 : decode cX7_findWithin 89 = .ok (.invokevirtual 113, 3) := @dq_o182 cX7_findWithin 89 0 113 (qX7_findWithin_5 9 182 rfl) (qX7_findWithin_5 10 0 rfl) (qX7_findWithin_5 11 113 rfl)
theorem dX7_findWithin_92 : decode cX7_findWithin 92 = .ok (.ifCond .ne 19, 3) := @dq_o154 cX7_findWithin 92 0 19 (qX7_findWithin_5 12 154 rfl) (qX7_findWithin_5 13 0 rfl) (qX7_findWithin_5 14 19 rfl)
theorem dX7_findWithin_95 : decode cX7_findWithin 95 = .ok (.aload_n 0, 1) := @dq_o42 cX7_findWithin 95 (qX7_findWithin_5 15 42 rfl)
theorem dX7_findWithin_96 : decode cX7_findWithin 96 = .ok (.iload_n 3, 1) := @dq_o29 cX7_findWithin 96 (qX7_findWithin_6 0 29 rfl)
theorem dX7_findWithin_97 : decode cX7_findWithin 97 = .ok (.aload_n 0, 1) := @dq_o42 cX7_findWithin 97 (qX7_findWithin_6 1 42 rfl)
theorem dX7_findWithin_98 : decode cX7_findWithin 98 = .ok (.getfield 37, 3) := @dq_o180 cX7_findWithin 98 0 37 (qX7_findWithin_6 2 180 rfl) (qX7_findWithin_6 3 0 rfl) (qX7_findWithin_6 4 37 rfl)
theorem dX7_findWithin_101 : decode cX7_findWithin 101 = .ok (.iload_n 3, 1) := @dq_o29 cX7_findWithin 101 (qX7_findWithin_6 5 29 rfl)
theorem dX7_findWithin_102 : decode cX7_findWithin 102 = .ok (.laload, 1) := @dq_o47 cX7_findWithin 102 (qX7_findWithin_6 6 47 rfl)
theorem dX7_findWithin_103 : decode cX7_findWithin 103 = .ok (.lconst 1, 1) := @dq_o10 cX7_findWithin 103 (qX7_findWithin_6 7 10 rfl)
theorem dX7_findWithin_104 : decode cX7_findWithin 104 = .ok (.ladd, 1) := @dq_o97 cX7_findWithin 104 (qX7_findWithin_6 8 97 rfl)
theorem dX7_findWithin_105 : decode cX7_findWithin 105 = .ok (.invokevirtual 125, 3) := @dq_o182 cX7_findWithin 105 0 125 (qX7_findWithin_6 9 182 rfl) (qX7_findWithin_6 10 0 rfl) (qX7_findWithin_6 11 125 rfl)
theorem dX7_findWithin_108 : decode cX7_findWithin 108 = .ok (.goto 19, 3) := @dq_o167 cX7_findWithin 108 0 19 (qX7_findWithin_6 12 167 rfl) (qX7_findWithin_6 13 0 rfl) (qX7_findWithin_6 14 19 rfl)
theorem dX7_findWithin_111 : decode cX7_findWithin 111 = .ok (.iinc 3 1, 3) := @dq_o132 cX7_findWithin 111 3 1 (qX7_findWithin_6 15 132 rfl) (qX7_findWithin_7 0 3 rfl) (qX7_findWithin_7 1 1 rfl)
theorem dX7_findWithin_114 : decode cX7_findWithin 114 = .ok (.iload_n 3, 1) := @dq_o29 cX7_findWithin 114 (qX7_findWithin_7 2 29 rfl)
theorem dX7_findWithin_115 : decode cX7_findWithin 115 = .ok (.iload_n 2, 1) := @dq_o28 cX7_findWithin 115 (qX7_findWithin_7 3 28 rfl)
theorem dX7_findWithin_116 : decode cX7_findWithin 116 = .ok (.if_icmp .ge 11, 3) := @dq_o162 cX7_findWithin 116 0 11 (qX7_findWithin_7 4 162 rfl) (qX7_findWithin_7 5 0 rfl) (qX7_findWithin_7 6 11 rfl)
theorem dX7_findWithin_119 : decode cX7_findWithin 119 = .ok (.aload_n 0, 1) := @dq_o42 cX7_findWithin 119 (qX7_findWithin_7 7 42 rfl)
theorem dX7_findWithin_120 : decode cX7_findWithin 120 = .ok (.iload_n 3, 1) := @dq_o29 cX7_findWithin 120 (qX7_findWithin_7 8 29 rfl)
theorem dX7_findWithin_121 : decode cX7_findWithin 121 = .ok (.iload_n 1, 1) := @dq_o27 cX7_findWithin 121 (qX7_findWithin_7 9 27 rfl)
theorem dX7_findWithin_122 : decode cX7_findWithin 122 = .ok (.ineg, 1) := @dq_o116 cX7_findWithin 122 (qX7_findWithin_7 10 116 rfl)
theorem dX7_findWithin_123 : decode cX7_findWithin 123 = .ok (.i2l, 1) := @dq_o133 cX7_findWithin 123 (qX7_findWithin_7 11 133 rfl)
theorem dX7_findWithin_124 : decode cX7_findWithin 124 = .ok (.invokevirtual 125, 3) := @dq_o182 cX7_findWithin 124 0 125 (qX7_findWithin_7 12 182 rfl) (qX7_findWithin_7 13 0 rfl) (qX7_findWithin_7 14 125 rfl)
theorem dX7_findWithin_127 : decode cX7_findWithin 127 = .ok (.iinc 4 1, 3) := @dq_o132 cX7_findWithin 127 4 1 (qX7_findWithin_7 15 132 rfl) (qX7_findWithin_8 0 4 rfl) (qX7_findWithin_8 1 1 rfl)
theorem dX7_findWithin_130 : decode cX7_findWithin 130 = .ok (.goto (-109), 3) := @dq_o167 cX7_findWithin 130 255 147 (qX7_findWithin_8 2 167 rfl) (qX7_findWithin_8 3 255 rfl) (qX7_findWithin_8 4 147 rfl)
theorem dX7_findWithin_133 : decode cX7_findWithin 133 = .ok (.iload_n 3, 1) := @dq_o29 cX7_findWithin 133 (qX7_findWithin_8 5 29 rfl)
theorem dX7_findWithin_134 : decode cX7_findWithin 134 = .ok (.iload_n 2, 1) := @dq_o28 cX7_findWithin 134 (qX7_findWithin_8 6 28 rfl)
theorem dX7_findWithin_135 : decode cX7_findWithin 135 = .ok (.if_icmp .lt 7, 3) := @dq_o161 cX7_findWithin 135 0 7 (qX7_findWithin_8 7 161 rfl) (qX7_findWithin_8 8 0 rfl) (qX7_findWithin_8 9 7 rfl)
theorem dX7_findWithin_138 : decode cX7_findWithin 138 = .ok (.iconst 1, 1) := @dq_o4 cX7_findWithin 138 (qX7_findWithin_8 10 4 rfl)
theorem dX7_findWithin_139 : decode cX7_findWithin 139 = .ok (.goto 4, 3) := @dq_o167 cX7_findWithin 139 0 4 (qX7_findWithin_8 11 167 rfl) (qX7_findWithin_8 12 0 rfl) (qX7_findWithin_8 13 4 rfl)
theorem dX7_findWithin_142 : decode cX7_findWithin 142 = .ok (.iconst 0, 1) := @dq_o3 cX7_findWithin 142 (qX7_findWithin_8 14 3 rfl)
theorem dX7_findWithin_143 : decode cX7_findWithin 143 = .ok (.ireturn, 1) := @dq_o172 cX7_findWithin 143 (qX7_findWithin_8 15 172 rfl)
abbrev qaX7_areClosed_0 : List Nat := [27, 62, 29, 28, 162, 0, 35, 29, 16, 6, 162, 0, 29, 42, 180, 0]
abbrev qaX7_areClosed_1 : List Nat := [23, 29, 50, 42, 180, 0, 27, 182, 0, 129, 9, 148, 153, 0, 5, 3]
abbrev qaX7_areClosed_2 : List Nat := [172, 132, 3, 1, 167, 255, 222, 4, 172]
def qtX7_areClosed_3 : List Nat := []
def qtX7_areClosed_2 : List Nat := qaX7_areClosed_2 ++ qtX7_areClosed_3
def qtX7_areClosed_1 : List Nat := qaX7_areClosed_1 ++ qtX7_areClosed_2
def qtX7_areClosed_0 : List Nat := qaX7_areClosed_0 ++ qtX7_areClosed_1
theorem qeX7_areClosed : cX7_areClosed.data.toList.map UInt8.toNat = qtX7_areClosed_0 := by decide +kernel
theorem qsX7_areClosed_0 : ∀ i, dqNth qtX7_areClosed_0 (0 + i) = dqNth qtX7_areClosed_0 i := fun i => by rw [Nat.zero_add]
theorem qsX7_areClosed_1 : ∀ i, dqNth qtX7_areClosed_0 (16 + i) = dqNth qtX7_areClosed_1 i := dq_step qsX7_areClosed_0 rfl rfl
theorem qsX7_areClosed_2 : ∀ i, dqNth qtX7_areClosed_0 (32 + i) = dqNth qtX7_areClosed_2 i := dq_step qsX7_areClosed_1 rfl rfl
theorem qX7_areClosed_0 (i b : Nat) (h : dqNth qaX7_areClosed_0 i = some b) : DqBy cX7_areClosed (0 + i) b := dqBy_of qeX7_areClosed ((qsX7_areClosed_0 i).trans (dq_in h))
theorem qX7_areClosed_1 (i b : Nat) (h : dqNth qaX7_areClosed_1 i = some b) : DqBy cX7_areClosed (16 + i) b := dqBy_of qeX7_areClosed ((qsX7_areClosed_1 i).trans (dq_in h))
theorem qX7_areClosed_2 (i b : Nat) (h : dqNth qaX7_areClosed_2 i = some b) : DqBy cX7_areClosed (32 + i) b := dqBy_of qeX7_areClosed ((qsX7_areClosed_2 i).trans (dq_in h))
theorem dX7_areClosed_0 : decode cX7_areClosed 0 = .ok (.iload_n 1, 1) := @dq_o27 cX7_areClosed 0 (qX7_areClosed_0 0 27 rfl)
theorem dX7_areClosed_1 : decode cX7_areClosed 1 = .ok (.istore_n 3, 1) := @dq_o62 cX7_areClosed 1 (qX7_areClosed_0 1 62 rfl)
theorem dX7_areClosed_2 : decode cX7_areClosed 2 = .ok (.iload_n 3, 1) := @dq_o29 cX7_areClosed 2 (qX7_areClosed_0 2 29 rfl)
theorem dX7_areClosed_3 : decode cX7_areClosed 3 = .ok (.iload_n 2, 1) := @dq_o28 cX7_areClosed 3 (qX7_areClosed_0 3 28 rfl)
theorem dX7_areClosed_4 : decode cX7_areClosed 4 = .ok (.if_icmp .ge 35, 3) := @dq_o162 cX7_areClosed 4 0 35 (qX7_areClosed_0 4 162 rfl) (qX7_areClosed_0 5 0 rfl) (qX7_areClosed_0 6 35 rfl)
theorem dX7_areClosed_7 : decode cX7_areClosed 7 = .ok (.iload_n 3, 1) := @dq_o29 cX7_areClosed 7 (qX7_areClosed_0 7 29 rfl)
theorem dX7_areClosed_8 : decode cX7_areClosed 8 = .ok (.bipush 6, 2) := @dq_o16 cX7_areClosed 8 6 (qX7_areClosed_0 8 16 rfl) (qX7_areClosed_0 9 6 rfl)
theorem dX7_areClosed_10 : decode cX7_areClosed 10 = .ok (.if_icmp .ge 29, 3) := @dq_o162 cX7_areClosed 10 0 29 (qX7_areClosed_0 10 162 rfl) (qX7_areClosed_0 11 0 rfl) (qX7_areClosed_0 12 29 rfl)
theorem dX7_areClosed_13 : decode cX7_areClosed 13 = .ok (.aload_n 0, 1) := @dq_o42 cX7_areClosed 13 (qX7_areClosed_0 13 42 rfl)
theorem dX7_areClosed_14 : decode cX7_areClosed 14 = .ok (.getfield 23, 3) := @dq_o180 cX7_areClosed 14 0 23 (qX7_areClosed_0 14 180 rfl) (qX7_areClosed_0 15 0 rfl) (qX7_areClosed_1 0 23 rfl)
theorem dX7_areClosed_17 : decode cX7_areClosed 17 = .ok (.iload_n 3, 1) := @dq_o29 cX7_areClosed 17 (qX7_areClosed_1 1 29 rfl)
theorem dX7_areClosed_18 : decode cX7_areClosed 18 = .ok (.aaload, 1) := @dq_o50 cX7_areClosed 18 (qX7_areClosed_1 2 50 rfl)
theorem dX7_areClosed_19 : decode cX7_areClosed 19 = .ok (.aload_n 0, 1) := @dq_o42 cX7_areClosed 19 (qX7_areClosed_1 3 42 rfl)
theorem dX7_areClosed_20 : decode cX7_areClosed 20 = .ok (.getfield 27, 3) := @dq_o180 cX7_areClosed 20 0 27 (qX7_areClosed_1 4 180 rfl) (qX7_areClosed_1 5 0 rfl) (qX7_areClosed_1 6 27 rfl)
theorem dX7_areClosed_23 : decode cX7_areClosed 23 = .ok (.invokevirtual 129, 3) := @dq_o182 cX7_areClosed 23 0 129 (qX7_areClosed_1 7 182 rfl) (qX7_areClosed_1 8 0 rfl) (qX7_areClosed_1 9 129 rfl)
theorem dX7_areClosed_26 : decode cX7_areClosed 26 = .ok (.lconst 0, 1) := @dq_o9 cX7_areClosed 26 (qX7_areClosed_1 10 9 rfl)
theorem dX7_areClosed_27 : decode cX7_areClosed 27 = .ok (.lcmp, 1) := @dq_o148 cX7_areClosed 27 (qX7_areClosed_1 11 148 rfl)
theorem dX7_areClosed_28 : decode cX7_areClosed 28 = .ok (.ifCond .eq 5, 3) := @dq_o153 cX7_areClosed 28 0 5 (qX7_areClosed_1 12 153 rfl) (qX7_areClosed_1 13 0 rfl) (qX7_areClosed_1 14 5 rfl)
theorem dX7_areClosed_31 : decode cX7_areClosed 31 = .ok (.iconst 0, 1) := @dq_o3 cX7_areClosed 31 (qX7_areClosed_1 15 3 rfl)
theorem dX7_areClosed_32 : decode cX7_areClosed 32 = .ok (.ireturn, 1) := @dq_o172 cX7_areClosed 32 (qX7_areClosed_2 0 172 rfl)
theorem dX7_areClosed_33 : decode cX7_areClosed 33 = .ok (.iinc 3 1, 3) := @dq_o132 cX7_areClosed 33 3 1 (qX7_areClosed_2 1 132 rfl) (qX7_areClosed_2 2 3 rfl) (qX7_areClosed_2 3 1 rfl)
theorem dX7_areClosed_36 : decode cX7_areClosed 36 = .ok (.goto (-34), 3) := @dq_o167 cX7_areClosed 36 255 222 (qX7_areClosed_2 4 167 rfl) (qX7_areClosed_2 5 255 rfl) (qX7_areClosed_2 6 222 rfl)
theorem dX7_areClosed_39 : decode cX7_areClosed 39 = .ok (.iconst 1, 1) := @dq_o4 cX7_areClosed 39 (qX7_areClosed_2 7 4 rfl)
theorem dX7_areClosed_40 : decode cX7_areClosed 40 = .ok (.ireturn, 1) := @dq_o172 cX7_areClosed 40 (qX7_areClosed_2 8 172 rfl)
abbrev qaX7_setU_0 : List Nat := [27, 155, 0, 25, 27, 16, 6, 162, 0, 19, 42, 180, 0, 37, 27, 32]
abbrev qaX7_setU_1 : List Nat := [80, 42, 180, 0, 27, 27, 32, 184, 0, 55, 177]
def qtX7_setU_2 : List Nat := []
def qtX7_setU_1 : List Nat := qaX7_setU_1 ++ qtX7_setU_2
def qtX7_setU_0 : List Nat := qaX7_setU_0 ++ qtX7_setU_1
theorem qeX7_setU : cX7_setU.data.toList.map UInt8.toNat = qtX7_setU_0 := by decide +kernel
theorem qsX7_setU_0 : ∀ i, dqNth qtX7_setU_0 (0 + i) = dqNth qtX7_setU_0 i := fun i => by rw [Nat.zero_add]
theorem qsX7_setU_1 : ∀ i, dqNth qtX7_setU_0 (16 + i) = dqNth qtX7_setU_1 i := dq_step qsX7_setU_0 rfl rfl
theorem qX7_setU_0 (i b : Nat) (h : dqNth qaX7_setU_0 i = some b) : DqBy cX7_setU (0 + i) b := dqBy_of qeX7_setU ((qsX7_setU_0 i).trans (dq_in h))
theorem qX7_setU_1 (i b : Nat) (h : dqNth qaX7_setU_1 i = some b) : DqBy cX7_setU (16 + i) b := dqBy_of qeX7_setU ((qsX7_setU_1 i).trans (dq_in h))
theorem dX7_setU_0 : decode cX7_setU 0 = .ok (.iload_n 1, 1) := @dq_o27 cX7_setU 0 (qX7_setU_0 0 27 rfl)
theorem dX7_setU_1 : decode cX7_setU 1 = .ok (.ifCond .lt 25, 3) := @dq_o155 cX7_setU 1 0 25 (qX7_setU_0 1 155 rfl) (qX7_setU_0 2 0 rfl) (qX7_setU_0 3 25 rfl)
theorem dX7_setU_4 : decode cX7_setU 4 = .ok (.iload_n 1, 1) := @dq_o27 cX7_setU 4 (qX7_setU_0 4 27 rfl)
theorem dX7_setU_5 : decode cX7_setU 5 = .ok (.bipush 6, 2) := @dq_o16 cX7_setU 5 6 (qX7_setU_0 5 16 rfl) (qX7_setU_0 6 6 rfl)
theorem dX7_setU_7 : decode cX7_setU 7 = .ok (.if_icmp .ge 19, 3) := @dq_o162 cX7_setU 7 0 19 (qX7_setU_0 7 162 rfl) (qX7_setU_0 8 0 rfl) (qX7_setU_0 9 19 rfl)
theorem dX7_setU_10 : decode cX7_setU 10 = .ok (.aload_n 0, 1) := @dq_o42 cX7_setU 10 (qX7_setU_0 10 42 rfl)
theorem dX7_setU_11 : decode cX7_setU 11 = .ok (.getfield 37, 3) := @dq_o180 cX7_setU 11 0 37 (qX7_setU_0 11 180 rfl) (qX7_setU_0 12 0 rfl) (qX7_setU_0 13 37 rfl)
theorem dX7_setU_14 : decode cX7_setU 14 = .ok (.iload_n 1, 1) := @dq_o27 cX7_setU 14 (qX7_setU_0 14 27 rfl)
theorem dX7_setU_15 : decode cX7_setU 15 = .ok (.lload_n 2, 1) := @dq_o32 cX7_setU 15 (qX7_setU_0 15 32 rfl)
theorem dX7_setU_16 : decode cX7_setU 16 = .ok (.lastore, 1) := @dq_o80 cX7_setU 16 (qX7_setU_1 0 80 rfl)
theorem dX7_setU_17 : decode cX7_setU 17 = .ok (.aload_n 0, 1) := @dq_o42 cX7_setU 17 (qX7_setU_1 1 42 rfl)
theorem dX7_setU_18 : decode cX7_setU 18 = .ok (.getfield 27, 3) := @dq_o180 cX7_setU 18 0 27 (qX7_setU_1 2 180 rfl) (qX7_setU_1 3 0 rfl) (qX7_setU_1 4 27 rfl)
theorem dX7_setU_21 : decode cX7_setU 21 = .ok (.iload_n 1, 1) := @dq_o27 cX7_setU 21 (qX7_setU_1 5 27 rfl)
theorem dX7_setU_22 : decode cX7_setU 22 = .ok (.lload_n 2, 1) := @dq_o32 cX7_setU 22 (qX7_setU_1 6 32 rfl)
theorem dX7_setU_23 : decode cX7_setU 23 = .ok (.invokestatic 55, 3) := @dq_o184 cX7_setU 23 0 55 (qX7_setU_1 7 184 rfl) (qX7_setU_1 8 0 rfl) (qX7_setU_1 9 55 rfl)
theorem dX7_setU_26 : decode cX7_setU 26 = .ok (.return_, 1) := @dq_o177 cX7_setU 26 (qX7_setU_1 10 177 rfl)
abbrev qaX7_putU_0 : List Nat := [3, 62, 29, 16, 6, 162, 0, 15, 42, 29, 31, 182, 0, 125, 132, 3]
abbrev qaX7_putU_1 : List Nat := [1, 167, 255, 241, 177]
def qtX7_putU_2 : List Nat := []
def qtX7_putU_1 : List Nat := qaX7_putU_1 ++ qtX7_putU_2
def qtX7_putU_0 : List Nat := qaX7_putU_0 ++ qtX7_putU_1
theorem qeX7_putU : cX7_putU.data.toList.map UInt8.toNat = qtX7_putU_0 := by decide +kernel
theorem qsX7_putU_0 : ∀ i, dqNth qtX7_putU_0 (0 + i) = dqNth qtX7_putU_0 i := fun i => by rw [Nat.zero_add]
theorem qsX7_putU_1 : ∀ i, dqNth qtX7_putU_0 (16 + i) = dqNth qtX7_putU_1 i := dq_step qsX7_putU_0 rfl rfl
theorem qX7_putU_0 (i b : Nat) (h : dqNth qaX7_putU_0 i = some b) : DqBy cX7_putU (0 + i) b := dqBy_of qeX7_putU ((qsX7_putU_0 i).trans (dq_in h))
theorem qX7_putU_1 (i b : Nat) (h : dqNth qaX7_putU_1 i = some b) : DqBy cX7_putU (16 + i) b := dqBy_of qeX7_putU ((qsX7_putU_1 i).trans (dq_in h))
theorem dX7_putU_0 : decode cX7_putU 0 = .ok (.iconst 0, 1) := @dq_o3 cX7_putU 0 (qX7_putU_0 0 3 rfl)
theorem dX7_putU_1 : decode cX7_putU 1 = .ok (.istore_n 3, 1) := @dq_o62 cX7_putU 1 (qX7_putU_0 1 62 rfl)
theorem dX7_putU_2 : decode cX7_putU 2 = .ok (.iload_n 3, 1) := @dq_o29 cX7_putU 2 (qX7_putU_0 2 29 rfl)
theorem dX7_putU_3 : decode cX7_putU 3 = .ok (.bipush 6, 2) := @dq_o16 cX7_putU 3 6 (qX7_putU_0 3 16 rfl) (qX7_putU_0 4 6 rfl)
theorem dX7_putU_5 : decode cX7_putU 5 = .ok (.if_icmp .ge 15, 3) := @dq_o162 cX7_putU 5 0 15 (qX7_putU_0 5 162 rfl) (qX7_putU_0 6 0 rfl) (qX7_putU_0 7 15 rfl)
theorem dX7_putU_8 : decode cX7_putU 8 = .ok (.aload_n 0, 1) := @dq_o42 cX7_putU 8 (qX7_putU_0 8 42 rfl)
theorem dX7_putU_9 : decode cX7_putU 9 = .ok (.iload_n 3, 1) := @dq_o29 cX7_putU 9 (qX7_putU_0 9 29 rfl)
theorem dX7_putU_10 : decode cX7_putU 10 = .ok (.lload_n 1, 1) := @dq_o31 cX7_putU 10 (qX7_putU_0 10 31 rfl)
theorem dX7_putU_11 : decode cX7_putU 11 = .ok (.invokevirtual 125, 3) := @dq_o182 cX7_putU 11 0 125 (qX7_putU_0 11 182 rfl) (qX7_putU_0 12 0 rfl) (qX7_putU_0 13 125 rfl)
theorem dX7_putU_14 : decode cX7_putU 14 = .ok (.iinc 3 1, 3) := @dq_o132 cX7_putU 14 3 1 (qX7_putU_0 14 132 rfl) (qX7_putU_0 15 3 rfl) (qX7_putU_1 0 1 rfl)
theorem dX7_putU_17 : decode cX7_putU 17 = .ok (.goto (-15), 3) := @dq_o167 cX7_putU 17 255 241 (qX7_putU_1 1 167 rfl) (qX7_putU_1 2 255 rfl) (qX7_putU_1 3 241 rfl)
theorem dX7_putU_20 : decode cX7_putU 20 = .ok (.return_, 1) := @dq_o177 cX7_putU 20 (qX7_putU_1 4 177 rfl)
abbrev qaX7_areConjugates_0 : List Nat := [42, 42, 180, 0, 50, 180, 0, 99, 4, 182, 0, 133, 181, 0, 40, 42]
abbrev qaX7_areConjugates_1 : List Nat := [42, 180, 0, 50, 180, 0, 99, 5, 182, 0, 133, 181, 0, 44, 42, 42]
abbrev qaX7_areConjugates_2 : List Nat := [180, 0, 50, 180, 0, 99, 6, 182, 0, 133, 181, 0, 47, 42, 43, 44]
abbrev qaX7_areConjugates_3 : List Nat := [182, 0, 91, 42, 9, 182, 0, 95, 42, 3, 42, 180, 0, 40, 182, 0]
abbrev qaX7_areConjugates_4 : List Nat := [113, 154, 0, 5, 3, 172, 42, 182, 0, 136, 42, 182, 0, 139, 154, 0]
abbrev qaX7_areConjugates_5 : List Nat := [5, 3, 172, 42, 42, 180, 0, 40, 42, 180, 0, 44, 96, 42, 180, 0]
abbrev qaX7_areConjugates_6 : List Nat := [47, 42, 180, 0, 34, 182, 0, 143, 42, 44, 44, 182, 0, 91, 42, 182]
abbrev qaX7_areConjugates_7 : List Nat := [0, 147, 42, 180, 0, 18, 42, 180, 0, 34, 182, 0, 150, 172]
def qtX7_areConjugates_8 : List Nat := []
def qtX7_areConjugates_7 : List Nat := qaX7_areConjugates_7 ++ qtX7_areConjugates_8
def qtX7_areConjugates_6 : List Nat := qaX7_areConjugates_6 ++ qtX7_areConjugates_7
def qtX7_areConjugates_5 : List Nat := qaX7_areConjugates_5 ++ qtX7_areConjugates_6
def qtX7_areConjugates_4 : List Nat := qaX7_areConjugates_4 ++ qtX7_areConjugates_5
def qtX7_areConjugates_3 : List Nat := qaX7_areConjugates_3 ++ qtX7_areConjugates_4
def qtX7_areConjugates_2 : List Nat := qaX7_areConjugates_2 ++ qtX7_areConjugates_3
def qtX7_areConjugates_1 : List Nat := qaX7_areConjugates_1 ++ qtX7_areConjugates_2
def qtX7_areConjugates_0 : List Nat := qaX7_areConjugates_0 ++ qtX7_areConjugates_1
theorem qeX7_areConjugates : cX7_areConjugates.data.toList.map UInt8.toNat = qtX7_areConjugates_0 := by decide +kernel
theorem qsX7_areConjugates_0 : ∀ i, dqNth qtX7_areConjugates_0 (0 + i) = dqNth qtX7_areConjugates_0 i := fun i => by rw [Nat.zero_add]
theorem qsX7_areConjugates_1 : ∀ i, dqNth qtX7_areConjugates_0 (16 + i) = dqNth qtX7_areConjugates_1 i := dq_step qsX7_areConjugates_0 rfl rfl
theorem qsX7_areConjugates_2 : ∀ i, dqNth qtX7_areConjugates_0 (32 + i) = dqNth qtX7_areConjugates_2 i := dq_step qsX7_areConjugates_1 rfl rfl
theorem qsX7_areConjugates_3 : ∀ i, dqNth qtX7_areConjugates_0 (48 + i) = dqNth qtX7_areConjugates_3 i := dq_step qsX7_areConjugates_2 rfl rfl
theorem qsX7_areConjugates_4 : ∀ i, dqNth qtX7_areConjugates_0 (64 + i) = dqNth qtX7_areConjugates_4 i := dq_step qsX7_areConjugates_3 rfl rfl
theorem qsX7_areConjugates_5 : ∀ i, dqNth qtX7_areConjugates_0 (80 + i) = dqNth qtX7_areConjugates_5 i := dq_step qsX7_areConjugates_4 rfl rfl
theorem qsX7_areConjugates_6 : ∀ i, dqNth qtX7_areConjugates_0 (96 + i) = dqNth qtX7_areConjugates_6 i := dq_step qsX7_areConjugates_5 rfl rfl
theorem qsX7_areConjugates_7 : ∀ i, dqNth qtX7_areConjugates_0 (112 + i) = dqNth qtX7_areConjugates_7 i := dq_step qsX7_areConjugates_6 rfl rfl
theorem qX7_areConjugates_0 (i b : Nat) (h : dqNth qaX7_areConjugates_0 i = some b) : DqBy cX7_areConjugates (0 + i) b := dqBy_of qeX7_areConjugates ((qsX7_areConjugates_0 i).trans (dq_in h))
theorem qX7_areConjugates_1 (i b : Nat) (h : dqNth qaX7_areConjugates_1 i = some b) : DqBy cX7_areConjugates (16 + i) b := dqBy_of qeX7_areConjugates ((qsX7_areConjugates_1 i).trans (dq_in h))
theorem qX7_areConjugates_2 (i b : Nat) (h : dqNth qaX7_areConjugates_2 i = some b) : DqBy cX7_areConjugates (32 + i) b := dqBy_of qeX7_areConjugates ((qsX7_areConjugates_2 i).trans (dq_in h))
theorem qX7_areConjugates_3 (i b : Nat) (h : dqNth qaX7_areConjugates_3 i = some b) : DqBy cX7_areConjugates (48 + i) b := dqBy_of qeX7_areConjugates ((qsX7_areConjugates_3 i).trans (dq_in h))
theorem qX7_areConjugates_4 (i b : Nat) (h : dqNth qaX7_areConjugates_4 i = some b) : DqBy cX7_areConjugates (64 + i) b := dqBy_of qeX7_areConjugates ((qsX7_areConjugates_4 i).trans (dq_in h))
theorem qX7_areConjugates_5 (i b : Nat) (h : dqNth qaX7_areConjugates_5 i = some b) : DqBy cX7_areConjugates (80 + i) b := dqBy_of qeX7_areConjugates ((qsX7_areConjugates_5 i).trans (dq_in h))
theorem qX7_areConjugates_6 (i b : Nat) (h : dqNth qaX7_areConjugates_6 i = some b) : DqBy cX7_areConjugates (96 + i) b := dqBy_of qeX7_areConjugates ((qsX7_areConjugates_6 i).trans (dq_in h))
theorem qX7_areConjugates_7 (i b : Nat) (h : dqNth qaX7_areConjugates_7 i = some b) : DqBy cX7_areConjugates (112 + i) b := dqBy_of qeX7_areConjugates ((qsX7_areConjugates_7 i).trans (dq_in h))
theorem dX7_areConjugates_0 : decode cX7_areConjugates 0 = .ok (.aload_n 0, 1) := @dq_o42 cX7_areConjugates 0 (qX7_areConjugates_0 0 42 rfl)
theorem dX7_areConjugates_1 : decode cX7_areConjugates 1 = .ok (.aload_n 0, 1) := @dq_o42 cX7_areConjugates 1 (qX7_areConjugates_0 1 42 rfl)
theorem dX7_areConjugates_2 : decode cX7_areConjugates 2 = .ok (.getfield 50, 3) := @dq_o180 cX7_areConjugates 2 0 50 (qX7_areConjugates_0 2 180 rfl) (qX7_areConjugates_0 3 0 rfl) (qX7_areConjugates_0 4 50 rfl)
theorem dX7_areConjugates_5 : decode cX7_areConjugates 5 = .ok (.getfield 99, 3) := @dq_o180 cX7_areConjugates 5 0 99 (qX7_areConjugates_0 5 180 rfl) (qX7_areConjugates_0 6 0 rfl) (qX7_areConjugates_0 7 99 rfl)
theorem dX7_areConjugates_8 : decode cX7_areConjugates 8 = .ok (.iconst 1, 1) := @dq_o4 cX7_areConjugates 8 (qX7_areConjugates_0 8 4 rfl)
theorem dX7_areConjugates_9 : decode cX7_areConjugates 9 = .ok (.invokevirtual 133, 3) := @dq_o182 cX7_areConjugates 9 0 133 (qX7_areConjugates_0 9 182 rfl) (qX7_areConjugates_0 10 0 rfl) (qX7_areConjugates_0 11 133 rfl)
theorem dX7_areConjugates_12 : decode cX7_areConjugates 12 = .ok (.putfield 40, 3) := @dq_o181 cX7_areConjugates 12 0 40 (qX7_areConjugates_0 12 181 rfl) (qX7_areConjugates_0 13 0 rfl) (qX7_areConjugates_0 14 40 rfl)
theorem dX7_areConjugates_15 : decode cX7_areConjugates 15 = .ok (.aload_n 0, 1) := @dq_o42 cX7_areConjugates 15 (qX7_areConjugates_0 15 42 rfl)
theorem dX7_areConjugates_16 : decode cX7_areConjugates 16 = .ok (.aload_n 0, 1) := @dq_o42 cX7_areConjugates 16 (qX7_areConjugates_1 0 42 rfl)
theorem dX7_areConjugates_17 : decode cX7_areConjugates 17 = .ok (.getfield 50, 3) := @dq_o180 cX7_areConjugates 17 0 50 (qX7_areConjugates_1 1 180 rfl) (qX7_areConjugates_1 2 0 rfl) (qX7_areConjugates_1 3 50 rfl)
theorem dX7_areConjugates_20 : decode cX7_areConjugates 20 = .ok (.getfield 99, 3) := @dq_o180 cX7_areConjugates 20 0 99 (qX7_areConjugates_1 4 180 rfl) (qX7_areConjugates_1 5 0 rfl) (qX7_areConjugates_1 6 99 rfl)
theorem dX7_areConjugates_23 : decode cX7_areConjugates 23 = .ok (.iconst 2, 1) := @dq_o5 cX7_areConjugates 23 (qX7_areConjugates_1 7 5 rfl)
theorem dX7_areConjugates_24 : decode cX7_areConjugates 24 = .ok (.invokevirtual 133, 3) := @dq_o182 cX7_areConjugates 24 0 133 (qX7_areConjugates_1 8 182 rfl) (qX7_areConjugates_1 9 0 rfl) (qX7_areConjugates_1 10 133 rfl)
theorem dX7_areConjugates_27 : decode cX7_areConjugates 27 = .ok (.putfield 44, 3) := @dq_o181 cX7_areConjugates 27 0 44 (qX7_areConjugates_1 11 181 rfl) (qX7_areConjugates_1 12 0 rfl) (qX7_areConjugates_1 13 44 rfl)
theorem dX7_areConjugates_30 : decode cX7_areConjugates 30 = .ok (.aload_n 0, 1) := @dq_o42 cX7_areConjugates 30 (qX7_areConjugates_1 14 42 rfl)
theorem dX7_areConjugates_31 : decode cX7_areConjugates 31 = .ok (.aload_n 0, 1) := @dq_o42 cX7_areConjugates 31 (qX7_areConjugates_1 15 42 rfl)
theorem dX7_areConjugates_32 : decode cX7_areConjugates 32 = .ok (.getfield 50, 3) := @dq_o180 cX7_areConjugates 32 0 50 (qX7_areConjugates_2 0 180 rfl) (qX7_areConjugates_2 1 0 rfl) (qX7_areConjugates_2 2 50 rfl)
theorem dX7_areConjugates_35 : decode cX7_areConjugates 35 = .ok (.getfield 99, 3) := @dq_o180 cX7_areConjugates 35 0 99 (qX7_areConjugates_2 3 180 rfl) (qX7_areConjugates_2 4 0 rfl) (qX7_areConjugates_2 5 99 rfl)
theorem dX7_areConjugates_38 : decode cX7_areConjugates 38 = .ok (.iconst 3, 1) := @dq_o6 cX7_areConjugates 38 (qX7_areConjugates_2 6 6 rfl)
theorem dX7_areConjugates_39 : decode cX7_areConjugates 39 = .ok (.invokevirtual 133, 3) := @dq_o182 cX7_areConjugates 39 0 133 (qX7_areConjugates_2 7 182 rfl) (qX7_areConjugates_2 8 0 rfl) (qX7_areConjugates_2 9 133 rfl)
theorem dX7_areConjugates_42 : decode cX7_areConjugates 42 = .ok (.putfield 47, 3) := @dq_o181 cX7_areConjugates 42 0 47 (qX7_areConjugates_2 10 181 rfl) (qX7_areConjugates_2 11 0 rfl) (qX7_areConjugates_2 12 47 rfl)
theorem dX7_areConjugates_45 : decode cX7_areConjugates 45 = .ok (.aload_n 0, 1) := @dq_o42 cX7_areConjugates 45 (qX7_areConjugates_2 13 42 rfl)
theorem dX7_areConjugates_46 : decode cX7_areConjugates 46 = .ok (.aload_n 1, 1) := @dq_o43 cX7_areConjugates 46 (qX7_areConjugates_2 14 43 rfl)
theorem dX7_areConjugates_47 : decode cX7_areConjugates 47 = .ok (.aload_n 2, 1) := @dq_o44 cX7_areConjugates 47 (qX7_areConjugates_2 15 44 rfl)
theorem dX7_areConjugates_48 : decode cX7_areConjugates 48 = .ok (.invokevirtual 91, 3) := @dq_o182 cX7_areConjugates 48 0 91 (qX7_areConjugates_3 0 182 rfl) (qX7_areConjugates_3 1 0 rfl) (qX7_areConjugates_3 2 91 rfl)
theorem dX7_areConjugates_51 : decode cX7_areConjugates 51 = .ok (.aload_n 0, 1) := @dq_o42 cX7_areConjugates 51 (qX7_areConjugates_3 3 42 rfl)
theorem dX7_areConjugates_52 : decode cX7_areConjugates 52 = .ok (.lconst 0, 1) := @dq_o9 cX7_areConjugates 52 (qX7_areConjugates_3 4 9 rfl)
theorem dX7_areConjugates_53 : decode cX7_areConjugates 53 = .ok (.invokevirtual 95, 3) := @dq_o182 cX7_areConjugates 53 0 95 (qX7_areConjugates_3 5 182 rfl) (qX7_areConjugates_3 6 0 rfl) (qX7_areConjugates_3 7 95 rfl)
theorem dX7_areConjugates_56 : decode cX7_areConjugates 56 = .ok (.aload_n 0, 1) := @dq_o42 cX7_areConjugates 56 (qX7_areConjugates_3 8 42 rfl)
theorem dX7_areConjugates_57 : decode cX7_areConjugates 57 = .ok (.iconst 0, 1) := @dq_o3 cX7_areConjugates 57 (qX7_areConjugates_3 9 3 rfl)
theorem dX7_areConjugates_58 : decode cX7_areConjugates 58 = .ok (.aload_n 0, 1) := @dq_o42 cX7_areConjugates 58 (qX7_areConjugates_3 10 42 rfl)
theorem dX7_areConjugates_59 : decode cX7_areConjugates 59 = .ok (.getfield 40, 3) := @dq_o180 cX7_areConjugates 59 0 40 (qX7_areConjugates_3 11 180 rfl) (qX7_areConjugates_3 12 0 rfl) (qX7_areConjugates_3 13 40 rfl)
theorem dX7_areConjugates_62 : decode cX7_areConjugates 62 = .ok (.invokevirtual 113, 3) := @dq_o182 cX7_areConjugates 62 0 113 (qX7_areConjugates_3 14 182 rfl) (qX7_areConjugates_3 15 0 rfl) (qX7_areConjugates_4 0 113 rfl)
theorem dX7_areConjugates_65 : decode cX7_areConjugates 65 = .ok (.ifCond .ne 5, 3) := @dq_o154 cX7_areConjugates 65 0 5 (qX7_areConjugates_4 1 154 rfl) (qX7_areConjugates_4 2 0 rfl) (qX7_areConjugates_4 3 5 rfl)
theorem dX7_areConjugates_68 : decode cX7_areConjugates 68 = .ok (.iconst 0, 1) := @dq_o3 cX7_areConjugates 68 (qX7_areConjugates_4 4 3 rfl)
theorem dX7_areConjugates_69 : decode cX7_areConjugates 69 = .ok (.ireturn, 1) := @dq_o172 cX7_areConjugates 69 (qX7_areConjugates_4 5 172 rfl)
theorem dX7_areConjugates_70 : decode cX7_areConjugates 70 = .ok (.aload_n 0, 1) := @dq_o42 cX7_areConjugates 70 (qX7_areConjugates_4 6 42 rfl)
theorem dX7_areConjugates_71 : decode cX7_areConjugates 71 = .ok (.invokevirtual 136, 3) := @dq_o182 cX7_areConjugates 71 0 136 (qX7_areConjugates_4 7 182 rfl) (qX7_areConjugates_4 8 0 rfl) (qX7_areConjugates_4 9 136 rfl)
theorem dX7_areConjugates_74 : decode cX7_areConjugates 74 = .ok (.aload_n 0, 1) := @dq_o42 cX7_areConjugates 74 (qX7_areConjugates_4 10 42 rfl)
theorem dX7_areConjugates_75 : decode cX7_areConjugates 75 = .ok (.invokevirtual 139, 3) := @dq_o182 cX7_areConjugates 75 0 139 (qX7_areConjugates_4 11 182 rfl) (qX7_areConjugates_4 12 0 rfl) (qX7_areConjugates_4 13 139 rfl)
theorem dX7_areConjugates_78 : decode cX7_areConjugates 78 = .ok (.ifCond .ne 5, 3) := @dq_o154 cX7_areConjugates 78 0 5 (qX7_areConjugates_4 14 154 rfl) (qX7_areConjugates_4 15 0 rfl) (qX7_areConjugates_5 0 5 rfl)
theorem dX7_areConjugates_81 : decode cX7_areConjugates 81 = .ok (.iconst 0, 1) := @dq_o3 cX7_areConjugates 81 (qX7_areConjugates_5 1 3 rfl)
theorem dX7_areConjugates_82 : decode cX7_areConjugates 82 = .ok (.ireturn, 1) := @dq_o172 cX7_areConjugates 82 (qX7_areConjugates_5 2 172 rfl)
theorem dX7_areConjugates_83 : decode cX7_areConjugates 83 = .ok (.aload_n 0, 1) := @dq_o42 cX7_areConjugates 83 (qX7_areConjugates_5 3 42 rfl)
theorem dX7_areConjugates_84 : decode cX7_areConjugates 84 = .ok (.aload_n 0, 1) := @dq_o42 cX7_areConjugates 84 (qX7_areConjugates_5 4 42 rfl)
theorem dX7_areConjugates_85 : decode cX7_areConjugates 85 = .ok (.getfield 40, 3) := @dq_o180 cX7_areConjugates 85 0 40 (qX7_areConjugates_5 5 180 rfl) (qX7_areConjugates_5 6 0 rfl) (qX7_areConjugates_5 7 40 rfl)
theorem dX7_areConjugates_88 : decode cX7_areConjugates 88 = .ok (.aload_n 0, 1) := @dq_o42 cX7_areConjugates 88 (qX7_areConjugates_5 8 42 rfl)
theorem dX7_areConjugates_89 : decode cX7_areConjugates 89 = .ok (.getfield 44, 3) := @dq_o180 cX7_areConjugates 89 0 44 (qX7_areConjugates_5 9 180 rfl) (qX7_areConjugates_5 10 0 rfl) (qX7_areConjugates_5 11 44 rfl)
theorem dX7_areConjugates_92 : decode cX7_areConjugates 92 = .ok (.iadd, 1) := @dq_o96 cX7_areConjugates 92 (qX7_areConjugates_5 12 96 rfl)
theorem dX7_areConjugates_93 : decode cX7_areConjugates 93 = .ok (.aload_n 0, 1) := @dq_o42 cX7_areConjugates 93 (qX7_areConjugates_5 13 42 rfl)
theorem dX7_areConjugates_94 : decode cX7_areConjugates 94 = .ok (.getfield 47, 3) := @dq_o180 cX7_areConjugates 94 0 47 (qX7_areConjugates_5 14 180 rfl) (qX7_areConjugates_5 15 0 rfl) (qX7_areConjugates_6 0 47 rfl)
theorem dX7_areConjugates_97 : decode cX7_areConjugates 97 = .ok (.aload_n 0, 1) := @dq_o42 cX7_areConjugates 97 (qX7_areConjugates_6 1 42 rfl)
theorem dX7_areConjugates_98 : decode cX7_areConjugates 98 = .ok (.getfield 34, 3) := @dq_o180 cX7_areConjugates 98 0 34 (qX7_areConjugates_6 2 180 rfl) (qX7_areConjugates_6 3 0 rfl) (qX7_areConjugates_6 4 34 rfl)
theorem dX7_areConjugates_101 : decode cX7_areConjugates 101 = .ok (.invokevirtual 143, 3) := @dq_o182 cX7_areConjugates 101 0 143 (qX7_areConjugates_6 5 182 rfl) (qX7_areConjugates_6 6 0 rfl) (qX7_areConjugates_6 7 143 rfl)
theorem dX7_areConjugates_104 : decode cX7_areConjugates 104 = .ok (.aload_n 0, 1) := @dq_o42 cX7_areConjugates 104 (qX7_areConjugates_6 8 42 rfl)
theorem dX7_areConjugates_105 : decode cX7_areConjugates 105 = .ok (.aload_n 2, 1) := @dq_o44 cX7_areConjugates 105 (qX7_areConjugates_6 9 44 rfl)
theorem dX7_areConjugates_106 : decode cX7_areConjugates 106 = .ok (.aload_n 2, 1) := @dq_o44 cX7_areConjugates 106 (qX7_areConjugates_6 10 44 rfl)
theorem dX7_areConjugates_107 : decode cX7_areConjugates 107 = .ok (.invokevirtual 91, 3) := @dq_o182 cX7_areConjugates 107 0 91 (qX7_areConjugates_6 11 182 rfl) (qX7_areConjugates_6 12 0 rfl) (qX7_areConjugates_6 13 91 rfl)
theorem dX7_areConjugates_110 : decode cX7_areConjugates 110 = .ok (.aload_n 0, 1) := @dq_o42 cX7_areConjugates 110 (qX7_areConjugates_6 14 42 rfl)
theorem dX7_areConjugates_111 : decode cX7_areConjugates 111 = .ok (.invokevirtual 147, 3) := @dq_o182 cX7_areConjugates 111 0 147 (qX7_areConjugates_6 15 182 rfl) (qX7_areConjugates_7 0 0 rfl) (qX7_areConjugates_7 1 147 rfl)
theorem dX7_areConjugates_114 : decode cX7_areConjugates 114 = .ok (.aload_n 0, 1) := @dq_o42 cX7_areConjugates 114 (qX7_areConjugates_7 2 42 rfl)
theorem dX7_areConjugates_115 : decode cX7_areConjugates 115 = .ok (.getfield 18, 3) := @dq_o180 cX7_areConjugates 115 0 18 (qX7_areConjugates_7 3 180 rfl) (qX7_areConjugates_7 4 0 rfl) (qX7_areConjugates_7 5 18 rfl)
theorem dX7_areConjugates_118 : decode cX7_areConjugates 118 = .ok (.aload_n 0, 1) := @dq_o42 cX7_areConjugates 118 (qX7_areConjugates_7 6 42 rfl)
theorem dX7_areConjugates_119 : decode cX7_areConjugates 119 = .ok (.getfield 34, 3) := @dq_o180 cX7_areConjugates 119 0 34 (qX7_areConjugates_7 7 180 rfl) (qX7_areConjugates_7 8 0 rfl) (qX7_areConjugates_7 9 34 rfl)
theorem dX7_areConjugates_122 : decode cX7_areConjugates 122 = .ok (.invokevirtual 150, 3) := @dq_o182 cX7_areConjugates 122 0 150 (qX7_areConjugates_7 10 182 rfl) (qX7_areConjugates_7 11 0 rfl) (qX7_areConjugates_7 12 150 rfl)
theorem dX7_areConjugates_125 : decode cX7_areConjugates 125 = .ok (.ireturn, 1) := @dq_o172 cX7_areConjugates 125 (qX7_areConjugates_7 13 172 rfl)
abbrev qaX7_findTurns_0 : List Nat := [42, 180, 0, 12, 42, 180, 0, 44, 42, 180, 0, 40, 96, 182, 0, 154]
abbrev qaX7_findTurns_1 : List Nat := [3, 60, 27, 42, 180, 0, 40, 162, 0, 117, 42, 9, 182, 0, 95, 42]
abbrev qaX7_findTurns_2 : List Nat := [42, 180, 0, 40, 42, 180, 0, 44, 42, 180, 0, 34, 182, 0, 143, 42]
abbrev qaX7_findTurns_3 : List Nat := [27, 10, 182, 0, 125, 42, 42, 180, 0, 40, 42, 180, 0, 44, 42, 180]
abbrev qaX7_findTurns_4 : List Nat := [0, 31, 182, 0, 143, 3, 61, 28, 42, 180, 0, 44, 162, 0, 24, 42]
abbrev qaX7_findTurns_5 : List Nat := [180, 0, 31, 28, 92, 47, 42, 180, 0, 34, 28, 47, 101, 80, 132, 2]
abbrev qaX7_findTurns_6 : List Nat := [1, 167, 255, 230, 42, 180, 0, 44, 27, 96, 16, 6, 162, 0, 15, 42]
abbrev qaX7_findTurns_7 : List Nat := [180, 0, 31, 42, 180, 0, 44, 27, 96, 10, 80, 42, 180, 0, 12, 42]
abbrev qaX7_findTurns_8 : List Nat := [180, 0, 31, 182, 0, 158, 132, 1, 1, 167, 255, 137, 177]
def qtX7_findTurns_9 : List Nat := []
def qtX7_findTurns_8 : List Nat := qaX7_findTurns_8 ++ qtX7_findTurns_9
def qtX7_findTurns_7 : List Nat := qaX7_findTurns_7 ++ qtX7_findTurns_8
def qtX7_findTurns_6 : List Nat := qaX7_findTurns_6 ++ qtX7_findTurns_7
def qtX7_findTurns_5 : List Nat := qaX7_findTurns_5 ++ qtX7_findTurns_6
def qtX7_findTurns_4 : List Nat := qaX7_findTurns_4 ++ qtX7_findTurns_5
def qtX7_findTurns_3 : List Nat := qaX7_findTurns_3 ++ qtX7_findTurns_4
def qtX7_findTurns_2 : List Nat := qaX7_findTurns_2 ++ qtX7_findTurns_3
def qtX7_findTurns_1 : List Nat := qaX7_findTurns_1 ++ qtX7_findTurns_2
def qtX7_findTurns_0 : List Nat := qaX7_findTurns_0 ++ qtX7_findTurns_1
theorem qeX7_findTurns : cX7_findTurns.data.toList.map UInt8.toNat = qtX7_findTurns_0 := by decide +kernel
theorem qsX7_findTurns_0 : ∀ i, dqNth qtX7_findTurns_0 (0 + i) = dqNth qtX7_findTurns_0 i := fun i => by rw [Nat.zero_add]
theorem qsX7_findTurns_1 : ∀ i, dqNth qtX7_findTurns_0 (16 + i) = dqNth qtX7_findTurns_1 i := dq_step qsX7_findTurns_0 rfl rfl
theorem qsX7_findTurns_2 : ∀ i, dqNth qtX7_findTurns_0 (32 + i) = dqNth qtX7_findTurns_2 i := dq_step qsX7_findTurns_1 rfl rfl
theorem qsX7_findTurns_3 : ∀ i, dqNth qtX7_findTurns_0 (48 + i) = dqNth qtX7_findTurns_3 i := dq_step qsX7_findTurns_2 rfl rfl
theorem qsX7_findTurns_4 : ∀ i, dqNth qtX7_findTurns_0 (64 + i) = dqNth qtX7_findTurns_4 i := dq_step qsX7_findTurns_3 rfl rfl
theorem qsX7_findTurns_5 : ∀ i, dqNth qtX7_findTurns_0 (80 + i) = dqNth qtX7_findTurns_5 i := dq_step qsX7_findTurns_4 rfl rfl
theorem qsX7_findTurns_6 : ∀ i, dqNth qtX7_findTurns_0 (96 + i) = dqNth qtX7_findTurns_6 i := dq_step qsX7_findTurns_5 rfl rfl
theorem qsX7_findTurns_7 : ∀ i, dqNth qtX7_findTurns_0 (112 + i) = dqNth qtX7_findTurns_7 i := dq_step qsX7_findTurns_6 rfl rfl
theorem qsX7_findTurns_8 : ∀ i, dqNth qtX7_findTurns_0 (128 + i) = dqNth qtX7_findTurns_8 i := dq_step qsX7_findTurns_7 rfl rfl
theorem qX7_findTurns_0 (i b : Nat) (h : dqNth qaX7_findTurns_0 i = some b) : DqBy cX7_findTurns (0 + i) b := dqBy_of qeX7_findTurns ((qsX7_findTurns_0 i).trans (dq_in h))
theorem qX7_findTurns_1 (i b : Nat) (h : dqNth qaX7_findTurns_1 i = some b) : DqBy cX7_findTurns (16 + i) b := dqBy_of qeX7_findTurns ((qsX7_findTurns_1 i).trans (dq_in h))
theorem qX7_findTurns_2 (i b : Nat) (h : dqNth qaX7_findTurns_2 i = some b) : DqBy cX7_findTurns (32 + i) b := dqBy_of qeX7_findTurns ((qsX7_findTurns_2 i).trans (dq_in h))
theorem qX7_findTurns_3 (i b : Nat) (h : dqNth qaX7_findTurns_3 i = some b) : DqBy cX7_findTurns (48 + i) b := dqBy_of qeX7_findTurns ((qsX7_findTurns_3 i).trans (dq_in h))
theorem qX7_findTurns_4 (i b : Nat) (h : dqNth qaX7_findTurns_4 i = some b) : DqBy cX7_findTurns (64 + i) b := dqBy_of qeX7_findTurns ((qsX7_findTurns_4 i).trans (dq_in h))
theorem qX7_findTurns_5 (i b : Nat) (h : dqNth qaX7_findTurns_5 i = some b) : DqBy cX7_findTurns (80 + i) b := dqBy_of qeX7_findTurns ((qsX7_findTurns_5 i).trans (dq_in h))
theorem qX7_findTurns_6 (i b : Nat) (h : dqNth qaX7_findTurns_6 i = some b) : DqBy cX7_findTurns (96 + i) b := dqBy_of qeX7_findTurns ((qsX7_findTurns_6 i).trans (dq_in h))
theorem qX7_findTurns_7 (i b : Nat) (h : dqNth qaX7_findTurns_7 i = some b) : DqBy cX7_findTurns (112 + i) b := dqBy_of qeX7_findTurns ((qsX7_findTurns_7 i).trans (dq_in h))
theorem qX7_findTurns_8 (i b : Nat) (h : dqNth qaX7_findTurns_8 i = some b) : DqBy cX7_findTurns (128 + i) b := dqBy_of qeX7_findTurns ((qsX7_findTurns_8 i).trans (dq_in h))
theorem dX7_findTurns_0 : decode cX7_findTurns 0 = .ok (.aload_n 0, 1) := @dq_o42 cX7_findTurns 0 (qX7_findTurns_0 0 42 rfl)
theorem dX7_findTurns_1 : decode cX7_findTurns 1 = .ok (.getfield 12, 3) := @dq_o180 cX7_findTurns 1 0 12 (qX7_findTurns_0 1 180 rfl) (qX7_findTurns_0 2 0 rfl) (qX7_findTurns_0 3 12 rfl)
theorem dX7_findTurns_4 : decode cX7_findTurns 4 = .ok (.aload_n 0, 1) := @dq_o42 cX7_findTurns 4 (qX7_findTurns_0 4 42 rfl)
theorem dX7_findTurns_5 : decode cX7_findTurns 5 = .ok (.getfield 44, 3) := @dq_o180 cX7_findTurns 5 0 44 (qX7_findTurns_0 5 180 rfl) (qX7_findTurns_0 6 0 rfl) (qX7_findTurns_0 7 44 rfl)
theorem dX7_findTurns_8 : decode cX7_findTurns 8 = .ok (.aload_n 0, 1) := @dq_o42 cX7_findTurns 8 (qX7_findTurns_0 8 42 rfl)
theorem dX7_findTurns_9 : decode cX7_findTurns 9 = .ok (.getfield 40, 3) := @dq_o180 cX7_findTurns 9 0 40 (qX7_findTurns_0 9 180 rfl) (qX7_findTurns_0 10 0 rfl) (qX7_findTurns_0 11 40 rfl)
theorem dX7_findTurns_12 : decode cX7_findTurns 12 = .ok (.iadd, 1) := @dq_o96 cX7_findTurns 12 (qX7_findTurns_0 12 96 rfl)
theorem dX7_findTurns_13 : decode cX7_findTurns 13 = .ok (.invokevirtual 154, 3) := @dq_o182 cX7_findTurns 13 0 154 (qX7_findTurns_0 13 182 rfl) (qX7_findTurns_0 14 0 rfl) (qX7_findTurns_0 15 154 rfl)
theorem dX7_findTurns_16 : decode cX7_findTurns 16 = .ok (.iconst 0, 1) := @dq_o3 cX7_findTurns 16 (qX7_findTurns_1 0 3 rfl)
theorem dX7_findTurns_17 : decode cX7_findTurns 17 = .ok (.istore_n 1, 1) := @dq_o60 cX7_findTurns 17 (qX7_findTurns_1 1 60 rfl)
theorem dX7_findTurns_18 : decode cX7_findTurns 18 = .ok (.iload_n 1, 1) := @dq_o27 cX7_findTurns 18 (qX7_findTurns_1 2 27 rfl)
theorem dX7_findTurns_19 : decode cX7_findTurns 19 = .ok (.aload_n 0, 1) := @dq_o42 cX7_findTurns 19 (qX7_findTurns_1 3 42 rfl)
theorem dX7_findTurns_20 : decode cX7_findTurns 20 = .ok (.getfield 40, 3) := @dq_o180 cX7_findTurns 20 0 40 (qX7_findTurns_1 4 180 rfl) (qX7_findTurns_1 5 0 rfl) (qX7_findTurns_1 6 40 rfl)
theorem dX7_findTurns_23 : decode cX7_findTurns 23 = .ok (.if_icmp .ge 117, 3) := @dq_o162 cX7_findTurns 23 0 117 (qX7_findTurns_1 7 162 rfl) (qX7_findTurns_1 8 0 rfl) (qX7_findTurns_1 9 117 rfl)
theorem dX7_findTurns_26 : decode cX7_findTurns 26 = .ok (.aload_n 0, 1) := @dq_o42 cX7_findTurns 26 (qX7_findTurns_1 10 42 rfl)
theorem dX7_findTurns_27 : decode cX7_findTurns 27 = .ok (.lconst 0, 1) := @dq_o9 cX7_findTurns 27 (qX7_findTurns_1 11 9 rfl)
theorem dX7_findTurns_28 : decode cX7_findTurns 28 = .ok (.invokevirtual 95, 3) := @dq_o182 cX7_findTurns 28 0 95 (qX7_findTurns_1 12 182 rfl) (qX7_findTurns_1 13 0 rfl) (qX7_findTurns_1 14 95 rfl)
theorem dX7_findTurns_31 : decode cX7_findTurns 31 = .ok (.aload_n 0, 1) := @dq_o42 cX7_findTurns 31 (qX7_findTurns_1 15 42 rfl)
theorem dX7_findTurns_32 : decode cX7_findTurns 32 = .ok (.aload_n 0, 1) := @dq_o42 cX7_findTurns 32 (qX7_findTurns_2 0 42 rfl)
theorem dX7_findTurns_33 : decode cX7_findTurns 33 = .ok (.getfield 40, 3) := @dq_o180 cX7_findTurns 33 0 40 (qX7_findTurns_2 1 180 rfl) (qX7_findTurns_2 2 0 rfl) (qX7_findTurns_2 3 40 rfl)
theorem dX7_findTurns_36 : decode cX7_findTurns 36 = .ok (.aload_n 0, 1) := @dq_o42 cX7_findTurns 36 (qX7_findTurns_2 4 42 rfl)
theorem dX7_findTurns_37 : decode cX7_findTurns 37 = .ok (.getfield 44, 3) := @dq_o180 cX7_findTurns 37 0 44 (qX7_findTurns_2 5 180 rfl) (qX7_findTurns_2 6 0 rfl) (qX7_findTurns_2 7 44 rfl)
theorem dX7_findTurns_40 : decode cX7_findTurns 40 = .ok (.aload_n 0, 1) := @dq_o42 cX7_findTurns 40 (qX7_findTurns_2 8 42 rfl)
theorem dX7_findTurns_41 : decode cX7_findTurns 41 = .ok (.getfield 34, 3) := @dq_o180 cX7_findTurns 41 0 34 (qX7_findTurns_2 9 180 rfl) (qX7_findTurns_2 10 0 rfl) (qX7_findTurns_2 11 34 rfl)
theorem dX7_findTurns_44 : decode cX7_findTurns 44 = .ok (.invokevirtual 143, 3) := @dq_o182 cX7_findTurns 44 0 143 (qX7_findTurns_2 12 182 rfl) (qX7_findTurns_2 13 0 rfl) (qX7_findTurns_2 14 143 rfl)
theorem dX7_findTurns_47 : decode cX7_findTurns 47 = .ok (.aload_n 0, 1) := @dq_o42 cX7_findTurns 47 (qX7_findTurns_2 15 42 rfl)
theorem dX7_findTurns_48 : decode cX7_findTurns 48 = .ok (.iload_n 1, 1) := @dq_o27 cX7_findTurns 48 (qX7_findTurns_3 0 27 rfl)
theorem dX7_findTurns_49 : decode cX7_findTurns 49 = .ok (.lconst 1, 1) := @dq_o10 cX7_findTurns 49 (qX7_findTurns_3 1 10 rfl)
theorem dX7_findTurns_50 : decode cX7_findTurns 50 = .ok (.invokevirtual 125, 3) := @dq_o182 cX7_findTurns 50 0 125 (qX7_findTurns_3 2 182 rfl) (qX7_findTurns_3 3 0 rfl) (qX7_findTurns_3 4 125 rfl)
theorem dX7_findTurns_53 : decode cX7_findTurns 53 = .ok (.aload_n 0, 1) := @dq_o42 cX7_findTurns 53 (qX7_findTurns_3 5 42 rfl)
theorem dX7_findTurns_54 : decode cX7_findTurns 54 = .ok (.aload_n 0, 1) := @dq_o42 cX7_findTurns 54 (qX7_findTurns_3 6 42 rfl)
theorem dX7_findTurns_55 : decode cX7_findTurns 55 = .ok (.getfield 40, 3) := @dq_o180 cX7_findTurns 55 0 40 (qX7_findTurns_3 7 180 rfl) (qX7_findTurns_3 8 0 rfl) (qX7_findTurns_3 9 40 rfl)
theorem dX7_findTurns_58 : decode cX7_findTurns 58 = .ok (.aload_n 0, 1) := @dq_o42 cX7_findTurns 58 (qX7_findTurns_3 10 42 rfl)
theorem dX7_findTurns_59 : decode cX7_findTurns 59 = .ok (.getfield 44, 3) := @dq_o180 cX7_findTurns 59 0 44 (qX7_findTurns_3 11 180 rfl) (qX7_findTurns_3 12 0 rfl) (qX7_findTurns_3 13 44 rfl)
theorem dX7_findTurns_62 : decode cX7_findTurns 62 = .ok (.aload_n 0, 1) := @dq_o42 cX7_findTurns 62 (qX7_findTurns_3 14 42 rfl)
theorem dX7_findTurns_63 : decode cX7_findTurns 63 = .ok (.getfield 31, 3) := @dq_o180 cX7_findTurns 63 0 31 (qX7_findTurns_3 15 180 rfl) (qX7_findTurns_4 0 0 rfl) (qX7_findTurns_4 1 31 rfl)
theorem dX7_findTurns_66 : decode cX7_findTurns 66 = .ok (.invokevirtual 143, 3) := @dq_o182 cX7_findTurns 66 0 143 (qX7_findTurns_4 2 182 rfl) (qX7_findTurns_4 3 0 rfl) (qX7_findTurns_4 4 143 rfl)
theorem dX7_findTurns_69 : decode cX7_findTurns 69 = .ok (.iconst 0, 1) := @dq_o3 cX7_findTurns 69 (qX7_findTurns_4 5 3 rfl)
theorem dX7_findTurns_70 : decode cX7_findTurns 70 = .ok (.istore_n 2, 1) := @dq_o61 cX7_findTurns 70 (qX7_findTurns_4 6 61 rfl)
theorem dX7_findTurns_71 : decode cX7_findTurns 71 = .ok (.iload_n 2, 1) := @dq_o28 cX7_findTurns 71 (qX7_findTurns_4 7 28 rfl)
theorem dX7_findTurns_72 : decode cX7_findTurns 72 = .ok (.aload_n 0, 1) := @dq_o42 cX7_findTurns 72 (qX7_findTurns_4 8 42 rfl)
theorem dX7_findTurns_73 : decode cX7_findTurns 73 = .ok (.getfield 44, 3) := @dq_o180 cX7_findTurns 73 0 44 (qX7_findTurns_4 9 180 rfl) (qX7_findTurns_4 10 0 rfl) (qX7_findTurns_4 11 44 rfl)
theorem dX7_findTurns_76 : decode cX7_findTurns 76 = .ok (.if_icmp .ge 24, 3) := @dq_o162 cX7_findTurns 76 0 24 (qX7_findTurns_4 12 162 rfl) (qX7_findTurns_4 13 0 rfl) (qX7_findTurns_4 14 24 rfl)
theorem dX7_findTurns_79 : decode cX7_findTurns 79 = .ok (.aload_n 0, 1) := @dq_o42 cX7_findTurns 79 (qX7_findTurns_4 15 42 rfl)
theorem dX7_findTurns_80 : decode cX7_findTurns 80 = .ok (.getfield 31, 3) := @dq_o180 cX7_findTurns 80 0 31 (qX7_findTurns_5 0 180 rfl) (qX7_findTurns_5 1 0 rfl) (qX7_findTurns_5 2 31 rfl)
theorem dX7_findTurns_83 : decode cX7_findTurns 83 = .ok (.iload_n 2, 1) := @dq_o28 cX7_findTurns 83 (qX7_findTurns_5 3 28 rfl)
theorem dX7_findTurns_84 : decode cX7_findTurns 84 = .ok (.dup2, 1) := @dq_o92 cX7_findTurns 84 (qX7_findTurns_5 4 92 rfl)
theorem dX7_findTurns_85 : decode cX7_findTurns 85 = .ok (.laload, 1) := @dq_o47 cX7_findTurns 85 (qX7_findTurns_5 5 47 rfl)
theorem dX7_findTurns_86 : decode cX7_findTurns 86 = .ok (.aload_n 0, 1) := @dq_o42 cX7_findTurns 86 (qX7_findTurns_5 6 42 rfl)
theorem dX7_findTurns_87 : decode cX7_findTurns 87 = .ok (.getfield 34, 3) := @dq_o180 cX7_findTurns 87 0 34 (qX7_findTurns_5 7 180 rfl) (qX7_findTurns_5 8 0 rfl) (qX7_findTurns_5 9 34 rfl)
theorem dX7_findTurns_90 : decode cX7_findTurns 90 = .ok (.iload_n 2, 1) := @dq_o28 cX7_findTurns 90 (qX7_findTurns_5 10 28 rfl)
theorem dX7_findTurns_91 : decode cX7_findTurns 91 = .ok (.laload, 1) := @dq_o47 cX7_findTurns 91 (qX7_findTurns_5 11 47 rfl)
theorem dX7_findTurns_92 : decode cX7_findTurns 92 = .ok (.lsub, 1) := @dq_o101 cX7_findTurns 92 (qX7_findTurns_5 12 101 rfl)
theorem dX7_findTurns_93 : decode cX7_findTurns 93 = .ok (.lastore, 1) := @dq_o80 cX7_findTurns 93 (qX7_findTurns_5 13 80 rfl)
theorem dX7_findTurns_94 : decode cX7_findTurns 94 = .ok (.iinc 2 1, 3) := @dq_o132 cX7_findTurns 94 2 1 (qX7_findTurns_5 14 132 rfl) (qX7_findTurns_5 15 2 rfl) (qX7_findTurns_6 0 1 rfl)
theorem dX7_findTurns_97 : decode cX7_findTurns 97 = .ok (.goto (-26), 3) := @dq_o167 cX7_findTurns 97 255 230 (qX7_findTurns_6 1 167 rfl) (qX7_findTurns_6 2 255 rfl) (qX7_findTurns_6 3 230 rfl)
theorem dX7_findTurns_100 : decode cX7_findTurns 100 = .ok (.aload_n 0, 1) := @dq_o42 cX7_findTurns 100 (qX7_findTurns_6 4 42 rfl)
theorem dX7_findTurns_101 : decode cX7_findTurns 101 = .ok (.getfield 44, 3) := @dq_o180 cX7_findTurns 101 0 44 (qX7_findTurns_6 5 180 rfl) (qX7_findTurns_6 6 0 rfl) (qX7_findTurns_6 7 44 rfl)
theorem dX7_findTurns_104 : decode cX7_findTurns 104 = .ok (.iload_n 1, 1) := @dq_o27 cX7_findTurns 104 (qX7_findTurns_6 8 27 rfl)
theorem dX7_findTurns_105 : decode cX7_findTurns 105 = .ok (.iadd, 1) := @dq_o96 cX7_findTurns 105 (qX7_findTurns_6 9 96 rfl)
theorem dX7_findTurns_106 : decode cX7_findTurns 106 = .ok (.bipush 6, 2) := @dq_o16 cX7_findTurns 106 6 (qX7_findTurns_6 10 16 rfl) (qX7_findTurns_6 11 6 rfl)
theorem dX7_findTurns_108 : decode cX7_findTurns 108 = .ok (.if_icmp .ge 15, 3) := @dq_o162 cX7_findTurns 108 0 15 (qX7_findTurns_6 12 162 rfl) (qX7_findTurns_6 13 0 rfl) (qX7_findTurns_6 14 15 rfl)
theorem dX7_findTurns_111 : decode cX7_findTurns 111 = .ok (.aload_n 0, 1) := @dq_o42 cX7_findTurns 111 (qX7_findTurns_6 15 42 rfl)
theorem dX7_findTurns_112 : decode cX7_findTurns 112 = .ok (.getfield 31, 3) := @dq_o180 cX7_findTurns 112 0 31 (qX7_findTurns_7 0 180 rfl) (qX7_findTurns_7 1 0 rfl) (qX7_findTurns_7 2 31 rfl)
theorem dX7_findTurns_115 : decode cX7_findTurns 115 = .ok (.aload_n 0, 1) := @dq_o42 cX7_findTurns 115 (qX7_findTurns_7 3 42 rfl)
theorem dX7_findTurns_116 : decode cX7_findTurns 116 = .ok (.getfield 44, 3) := @dq_o180 cX7_findTurns 116 0 44 (qX7_findTurns_7 4 180 rfl) (qX7_findTurns_7 5 0 rfl) (qX7_findTurns_7 6 44 rfl)
theorem dX7_findTurns_119 : decode cX7_findTurns 119 = .ok (.iload_n 1, 1) := @dq_o27 cX7_findTurns 119 (qX7_findTurns_7 7 27 rfl)
theorem dX7_findTurns_120 : decode cX7_findTurns 120 = .ok (.iadd, 1) := @dq_o96 cX7_findTurns 120 (qX7_findTurns_7 8 96 rfl)
theorem dX7_findTurns_121 : decode cX7_findTurns 121 = .ok (.lconst 1, 1) := @dq_o10 cX7_findTurns 121 (qX7_findTurns_7 9 10 rfl)
theorem dX7_findTurns_122 : decode cX7_findTurns 122 = .ok (.lastore, 1) := @dq_o80 cX7_findTurns 122 (qX7_findTurns_7 10 80 rfl)
theorem dX7_findTurns_123 : decode cX7_findTurns 123 = .ok (.aload_n 0, 1) := @dq_o42 cX7_findTurns 123 (qX7_findTurns_7 11 42 rfl)
theorem dX7_findTurns_124 : decode cX7_findTurns 124 = .ok (.getfield 12, 3) := @dq_o180 cX7_findTurns 124 0 12 (qX7_findTurns_7 12 180 rfl) (qX7_findTurns_7 13 0 rfl) (qX7_findTurns_7 14 12 rfl)
theorem dX7_findTurns_127 : decode cX7_findTurns 127 = .ok (.aload_n 0, 1) := @dq_o42 cX7_findTurns 127 (qX7_findTurns_7 15 42 rfl)
theorem dX7_findTurns_128 : decode cX7_findTurns 128 = .ok (.getfield 31, 3) := @dq_o180 cX7_findTurns 128 0 31 (qX7_findTurns_8 0 180 rfl) (qX7_findTurns_8 1 0 rfl) (qX7_findTurns_8 2 31 rfl)
theorem dX7_findTurns_131 : decode cX7_findTurns 131 = .ok (.invokevirtual 158, 3) := @dq_o182 cX7_findTurns 131 0 158 (qX7_findTurns_8 3 182 rfl) (qX7_findTurns_8 4 0 rfl) (qX7_findTurns_8 5 158 rfl)
theorem dX7_findTurns_134 : decode cX7_findTurns 134 = .ok (.iinc 1 1, 3) := @dq_o132 cX7_findTurns 134 1 1 (qX7_findTurns_8 6 132 rfl) (qX7_findTurns_8 7 1 rfl) (qX7_findTurns_8 8 1 rfl)
theorem dX7_findTurns_137 : decode cX7_findTurns 137 = .ok (.goto (-119), 3) := @dq_o167 cX7_findTurns 137 255 137 (qX7_findTurns_8 9 167 rfl) (qX7_findTurns_8 10 255 rfl) (qX7_findTurns_8 11 137 rfl)
theorem dX7_findTurns_140 : decode cX7_findTurns 140 = .ok (.return_, 1) := @dq_o177 cX7_findTurns 140 (qX7_findTurns_8 12 177 rfl)
abbrev qaX7_turnWeightTwo_0 : List Nat := [42, 9, 182, 0, 95, 42, 42, 180, 0, 40, 42, 180, 0, 44, 42, 180]
abbrev qaX7_turnWeightTwo_1 : List Nat := [0, 31, 182, 0, 143, 42, 180, 0, 12, 42, 180, 0, 31, 182, 0, 150]
abbrev qaX7_turnWeightTwo_2 : List Nat := [87, 3, 60, 27, 42, 180, 0, 44, 162, 0, 22, 42, 180, 0, 31, 27]
abbrev qaX7_turnWeightTwo_3 : List Nat := [47, 9, 148, 153, 0, 5, 3, 172, 132, 1, 1, 167, 255, 232, 3, 60]
abbrev qaX7_turnWeightTwo_4 : List Nat := [27, 42, 180, 0, 40, 162, 0, 36, 42, 180, 0, 44, 27, 96, 16, 6]
abbrev qaX7_turnWeightTwo_5 : List Nat := [162, 0, 25, 42, 27, 42, 180, 0, 31, 42, 180, 0, 44, 27, 96, 47]
abbrev qaX7_turnWeightTwo_6 : List Nat := [182, 0, 125, 132, 1, 1, 167, 255, 218, 4, 172]
def qtX7_turnWeightTwo_7 : List Nat := []
def qtX7_turnWeightTwo_6 : List Nat := qaX7_turnWeightTwo_6 ++ qtX7_turnWeightTwo_7
def qtX7_turnWeightTwo_5 : List Nat := qaX7_turnWeightTwo_5 ++ qtX7_turnWeightTwo_6
def qtX7_turnWeightTwo_4 : List Nat := qaX7_turnWeightTwo_4 ++ qtX7_turnWeightTwo_5
def qtX7_turnWeightTwo_3 : List Nat := qaX7_turnWeightTwo_3 ++ qtX7_turnWeightTwo_4
def qtX7_turnWeightTwo_2 : List Nat := qaX7_turnWeightTwo_2 ++ qtX7_turnWeightTwo_3
def qtX7_turnWeightTwo_1 : List Nat := qaX7_turnWeightTwo_1 ++ qtX7_turnWeightTwo_2
def qtX7_turnWeightTwo_0 : List Nat := qaX7_turnWeightTwo_0 ++ qtX7_turnWeightTwo_1
theorem qeX7_turnWeightTwo : cX7_turnWeightTwo.data.toList.map UInt8.toNat = qtX7_turnWeightTwo_0 := by decide +kernel
theorem qsX7_turnWeightTwo_0 : ∀ i, dqNth qtX7_turnWeightTwo_0 (0 + i) = dqNth qtX7_turnWeightTwo_0 i := fun i => by rw [Nat.zero_add]
theorem qsX7_turnWeightTwo_1 : ∀ i, dqNth qtX7_turnWeightTwo_0 (16 + i) = dqNth qtX7_turnWeightTwo_1 i := dq_step qsX7_turnWeightTwo_0 rfl rfl
theorem qsX7_turnWeightTwo_2 : ∀ i, dqNth qtX7_turnWeightTwo_0 (32 + i) = dqNth qtX7_turnWeightTwo_2 i := dq_step qsX7_turnWeightTwo_1 rfl rfl
theorem qsX7_turnWeightTwo_3 : ∀ i, dqNth qtX7_turnWeightTwo_0 (48 + i) = dqNth qtX7_turnWeightTwo_3 i := dq_step qsX7_turnWeightTwo_2 rfl rfl
theorem qsX7_turnWeightTwo_4 : ∀ i, dqNth qtX7_turnWeightTwo_0 (64 + i) = dqNth qtX7_turnWeightTwo_4 i := dq_step qsX7_turnWeightTwo_3 rfl rfl
theorem qsX7_turnWeightTwo_5 : ∀ i, dqNth qtX7_turnWeightTwo_0 (80 + i) = dqNth qtX7_turnWeightTwo_5 i := dq_step qsX7_turnWeightTwo_4 rfl rfl
theorem qsX7_turnWeightTwo_6 : ∀ i, dqNth qtX7_turnWeightTwo_0 (96 + i) = dqNth qtX7_turnWeightTwo_6 i := dq_step qsX7_turnWeightTwo_5 rfl rfl
theorem qX7_turnWeightTwo_0 (i b : Nat) (h : dqNth qaX7_turnWeightTwo_0 i = some b) : DqBy cX7_turnWeightTwo (0 + i) b := dqBy_of qeX7_turnWeightTwo ((qsX7_turnWeightTwo_0 i).trans (dq_in h))
theorem qX7_turnWeightTwo_1 (i b : Nat) (h : dqNth qaX7_turnWeightTwo_1 i = some b) : DqBy cX7_turnWeightTwo (16 + i) b := dqBy_of qeX7_turnWeightTwo ((qsX7_turnWeightTwo_1 i).trans (dq_in h))
theorem qX7_turnWeightTwo_2 (i b : Nat) (h : dqNth qaX7_turnWeightTwo_2 i = some b) : DqBy cX7_turnWeightTwo (32 + i) b := dqBy_of qeX7_turnWeightTwo ((qsX7_turnWeightTwo_2 i).trans (dq_in h))
theorem qX7_turnWeightTwo_3 (i b : Nat) (h : dqNth qaX7_turnWeightTwo_3 i = some b) : DqBy cX7_turnWeightTwo (48 + i) b := dqBy_of qeX7_turnWeightTwo ((qsX7_turnWeightTwo_3 i).trans (dq_in h))
theorem qX7_turnWeightTwo_4 (i b : Nat) (h : dqNth qaX7_turnWeightTwo_4 i = some b) : DqBy cX7_turnWeightTwo (64 + i) b := dqBy_of qeX7_turnWeightTwo ((qsX7_turnWeightTwo_4 i).trans (dq_in h))
theorem qX7_turnWeightTwo_5 (i b : Nat) (h : dqNth qaX7_turnWeightTwo_5 i = some b) : DqBy cX7_turnWeightTwo (80 + i) b := dqBy_of qeX7_turnWeightTwo ((qsX7_turnWeightTwo_5 i).trans (dq_in h))
theorem qX7_turnWeightTwo_6 (i b : Nat) (h : dqNth qaX7_turnWeightTwo_6 i = some b) : DqBy cX7_turnWeightTwo (96 + i) b := dqBy_of qeX7_turnWeightTwo ((qsX7_turnWeightTwo_6 i).trans (dq_in h))
theorem dX7_turnWeightTwo_0 : decode cX7_turnWeightTwo 0 = .ok (.aload_n 0, 1) := @dq_o42 cX7_turnWeightTwo 0 (qX7_turnWeightTwo_0 0 42 rfl)
theorem dX7_turnWeightTwo_1 : decode cX7_turnWeightTwo 1 = .ok (.lconst 0, 1) := @dq_o9 cX7_turnWeightTwo 1 (qX7_turnWeightTwo_0 1 9 rfl)
theorem dX7_turnWeightTwo_2 : decode cX7_turnWeightTwo 2 = .ok (.invokevirtual 95, 3) := @dq_o182 cX7_turnWeightTwo 2 0 95 (qX7_turnWeightTwo_0 2 182 rfl) (qX7_turnWeightTwo_0 3 0 rfl) (qX7_turnWeightTwo_0 4 95 rfl)
theorem dX7_turnWeightTwo_5 : decode cX7_turnWeightTwo 5 = .ok (.aload_n 0, 1) := @dq_o42 cX7_turnWeightTwo 5 (qX7_turnWeightTwo_0 5 42 rfl)
theorem dX7_turnWeightTwo_6 : decode cX7_turnWeightTwo 6 = .ok (.aload_n 0, 1) := @dq_o42 cX7_turnWeightTwo 6 (qX7_turnWeightTwo_0 6 42 rfl)
theorem dX7_turnWeightTwo_7 : decode cX7_turnWeightTwo 7 = .ok (.getfield 40, 3) := @dq_o180 cX7_turnWeightTwo 7 0 40 (qX7_turnWeightTwo_0 7 180 rfl) (qX7_turnWeightTwo_0 8 0 rfl) (qX7_turnWeightTwo_0 9 40 rfl)
theorem dX7_turnWeightTwo_10 : decode cX7_turnWeightTwo 10 = .ok (.aload_n 0, 1) := @dq_o42 cX7_turnWeightTwo 10 (qX7_turnWeightTwo_0 10 42 rfl)
theorem dX7_turnWeightTwo_11 : decode cX7_turnWeightTwo 11 = .ok (.getfield 44, 3) := @dq_o180 cX7_turnWeightTwo 11 0 44 (qX7_turnWeightTwo_0 11 180 rfl) (qX7_turnWeightTwo_0 12 0 rfl) (qX7_turnWeightTwo_0 13 44 rfl)
theorem dX7_turnWeightTwo_14 : decode cX7_turnWeightTwo 14 = .ok (.aload_n 0, 1) := @dq_o42 cX7_turnWeightTwo 14 (qX7_turnWeightTwo_0 14 42 rfl)
theorem dX7_turnWeightTwo_15 : decode cX7_turnWeightTwo 15 = .ok (.getfield 31, 3) := @dq_o180 cX7_turnWeightTwo 15 0 31 (qX7_turnWeightTwo_0 15 180 rfl) (qX7_turnWeightTwo_1 0 0 rfl) (qX7_turnWeightTwo_1 1 31 rfl)
theorem dX7_turnWeightTwo_18 : decode cX7_turnWeightTwo 18 = .ok (.invokevirtual 143, 3) := @dq_o182 cX7_turnWeightTwo 18 0 143 (qX7_turnWeightTwo_1 2 182 rfl) (qX7_turnWeightTwo_1 3 0 rfl) (qX7_turnWeightTwo_1 4 143 rfl)
theorem dX7_turnWeightTwo_21 : decode cX7_turnWeightTwo 21 = .ok (.aload_n 0, 1) := @dq_o42 cX7_turnWeightTwo 21 (qX7_turnWeightTwo_1 5 42 rfl)
theorem dX7_turnWeightTwo_22 : decode cX7_turnWeightTwo 22 = .ok (.getfield 12, 3) := @dq_o180 cX7_turnWeightTwo 22 0 12 (qX7_turnWeightTwo_1 6 180 rfl) (qX7_turnWeightTwo_1 7 0 rfl) (qX7_turnWeightTwo_1 8 12 rfl)
theorem dX7_turnWeightTwo_25 : decode cX7_turnWeightTwo 25 = .ok (.aload_n 0, 1) := @dq_o42 cX7_turnWeightTwo 25 (qX7_turnWeightTwo_1 9 42 rfl)
theorem dX7_turnWeightTwo_26 : decode cX7_turnWeightTwo 26 = .ok (.getfield 31, 3) := @dq_o180 cX7_turnWeightTwo 26 0 31 (qX7_turnWeightTwo_1 10 180 rfl) (qX7_turnWeightTwo_1 11 0 rfl) (qX7_turnWeightTwo_1 12 31 rfl)
theorem dX7_turnWeightTwo_29 : decode cX7_turnWeightTwo 29 = .ok (.invokevirtual 150, 3) := @dq_o182 cX7_turnWeightTwo 29 0 150 (qX7_turnWeightTwo_1 13 182 rfl) (qX7_turnWeightTwo_1 14 0 rfl) (qX7_turnWeightTwo_1 15 150 rfl)
theorem dX7_turnWeightTwo_32 : decode cX7_turnWeightTwo 32 = .ok (.pop, 1) := @dq_o87 cX7_turnWeightTwo 32 (qX7_turnWeightTwo_2 0 87 rfl)
theorem dX7_turnWeightTwo_33 : decode cX7_turnWeightTwo 33 = .ok (.iconst 0, 1) := @dq_o3 cX7_turnWeightTwo 33 (qX7_turnWeightTwo_2 1 3 rfl)
theorem dX7_turnWeightTwo_34 : decode cX7_turnWeightTwo 34 = .ok (.istore_n 1, 1) := @dq_o60 cX7_turnWeightTwo 34 (qX7_turnWeightTwo_2 2 60 rfl)
theorem dX7_turnWeightTwo_35 : decode cX7_turnWeightTwo 35 = .ok (.iload_n 1, 1) := @dq_o27 cX7_turnWeightTwo 35 (qX7_turnWeightTwo_2 3 27 rfl)
theorem dX7_turnWeightTwo_36 : decode cX7_turnWeightTwo 36 = .ok (.aload_n 0, 1) := @dq_o42 cX7_turnWeightTwo 36 (qX7_turnWeightTwo_2 4 42 rfl)
theorem dX7_turnWeightTwo_37 : decode cX7_turnWeightTwo 37 = .ok (.getfield 44, 3) := @dq_o180 cX7_turnWeightTwo 37 0 44 (qX7_turnWeightTwo_2 5 180 rfl) (qX7_turnWeightTwo_2 6 0 rfl) (qX7_turnWeightTwo_2 7 44 rfl)
theorem dX7_turnWeightTwo_40 : decode cX7_turnWeightTwo 40 = .ok (.if_icmp .ge 22, 3) := @dq_o162 cX7_turnWeightTwo 40 0 22 (qX7_turnWeightTwo_2 8 162 rfl) (qX7_turnWeightTwo_2 9 0 rfl) (qX7_turnWeightTwo_2 10 22 rfl)
theorem dX7_turnWeightTwo_43 : decode cX7_turnWeightTwo 43 = .ok (.aload_n 0, 1) := @dq_o42 cX7_turnWeightTwo 43 (qX7_turnWeightTwo_2 11 42 rfl)
theorem dX7_turnWeightTwo_44 : decode cX7_turnWeightTwo 44 = .ok (.getfield 31, 3) := @dq_o180 cX7_turnWeightTwo 44 0 31 (qX7_turnWeightTwo_2 12 180 rfl) (qX7_turnWeightTwo_2 13 0 rfl) (qX7_turnWeightTwo_2 14 31 rfl)
theorem dX7_turnWeightTwo_47 : decode cX7_turnWeightTwo 47 = .ok (.iload_n 1, 1) := @dq_o27 cX7_turnWeightTwo 47 (qX7_turnWeightTwo_2 15 27 rfl)
theorem dX7_turnWeightTwo_48 : decode cX7_turnWeightTwo 48 = .ok (.laload, 1) := @dq_o47 cX7_turnWeightTwo 48 (qX7_turnWeightTwo_3 0 47 rfl)
theorem dX7_turnWeightTwo_49 : decode cX7_turnWeightTwo 49 = .ok (.lconst 0, 1) := @dq_o9 cX7_turnWeightTwo 49 (qX7_turnWeightTwo_3 1 9 rfl)
theorem dX7_turnWeightTwo_50 : decode cX7_turnWeightTwo 50 = .ok (.lcmp, 1) := @dq_o148 cX7_turnWeightTwo 50 (qX7_turnWeightTwo_3 2 148 rfl)
theorem dX7_turnWeightTwo_51 : decode cX7_turnWeightTwo 51 = .ok (.ifCond .eq 5, 3) := @dq_o153 cX7_turnWeightTwo 51 0 5 (qX7_turnWeightTwo_3 3 153 rfl) (qX7_turnWeightTwo_3 4 0 rfl) (qX7_turnWeightTwo_3 5 5 rfl)
theorem dX7_turnWeightTwo_54 : decode cX7_turnWeightTwo 54 = .ok (.iconst 0, 1) := @dq_o3 cX7_turnWeightTwo 54 (qX7_turnWeightTwo_3 6 3 rfl)
theorem dX7_turnWeightTwo_55 : decode cX7_turnWeightTwo 55 = .ok (.ireturn, 1) := @dq_o172 cX7_turnWeightTwo 55 (qX7_turnWeightTwo_3 7 172 rfl)
theorem dX7_turnWeightTwo_56 : decode cX7_turnWeightTwo 56 = .ok (.iinc 1 1, 3) := @dq_o132 cX7_turnWeightTwo 56 1 1 (qX7_turnWeightTwo_3 8 132 rfl) (qX7_turnWeightTwo_3 9 1 rfl) (qX7_turnWeightTwo_3 10 1 rfl)
theorem dX7_turnWeightTwo_59 : decode cX7_turnWeightTwo 59 = .ok (.goto (-24), 3) := @dq_o167 cX7_turnWeightTwo 59 255 232 (qX7_turnWeightTwo_3 11 167 rfl) (qX7_turnWeightTwo_3 12 255 rfl) (qX7_turnWeightTwo_3 13 232 rfl)
theorem dX7_turnWeightTwo_62 : decode cX7_turnWeightTwo 62 = .ok (.iconst 0, 1) := @dq_o3 cX7_turnWeightTwo 62 (qX7_turnWeightTwo_3 14 3 rfl)
theorem dX7_turnWeightTwo_63 : decode cX7_turnWeightTwo 63 = .ok (.istore_n 1, 1) := @dq_o60 cX7_turnWeightTwo 63 (qX7_turnWeightTwo_3 15 60 rfl)
theorem dX7_turnWeightTwo_64 : decode cX7_turnWeightTwo 64 = .ok (.iload_n 1, 1) := @dq_o27 cX7_turnWeightTwo 64 (qX7_turnWeightTwo_4 0 27 rfl)
theorem dX7_turnWeightTwo_65 : decode cX7_turnWeightTwo 65 = .ok (.aload_n 0, 1) := @dq_o42 cX7_turnWeightTwo 65 (qX7_turnWeightTwo_4 1 42 rfl)
theorem dX7_turnWeightTwo_66 : decode cX7_turnWeightTwo 66 = .ok (.getfield 40, 3) := @dq_o180 cX7_turnWeightTwo 66 0 40 (qX7_turnWeightTwo_4 2 180 rfl) (qX7_turnWeightTwo_4 3 0 rfl) (qX7_turnWeightTwo_4 4 40 rfl)
theorem dX7_turnWeightTwo_69 : decode cX7_turnWeightTwo 69 = .ok (.if_icmp .ge 36, 3) := @dq_o162 cX7_turnWeightTwo 69 0 36 (qX7_turnWeightTwo_4 5 162 rfl) (qX7_turnWeightTwo_4 6 0 rfl) (qX7_turnWeightTwo_4 7 36 rfl)
theorem dX7_turnWeightTwo_72 : decode cX7_turnWeightTwo 72 = .ok (.aload_n 0, 1) := @dq_o42 cX7_turnWeightTwo 72 (qX7_turnWeightTwo_4 8 42 rfl)
theorem dX7_turnWeightTwo_73 : decode cX7_turnWeightTwo 73 = .ok (.getfield 44, 3) := @dq_o180 cX7_turnWeightTwo 73 0 44 (qX7_turnWeightTwo_4 9 180 rfl) (qX7_turnWeightTwo_4 10 0 rfl) (qX7_turnWeightTwo_4 11 44 rfl)
theorem dX7_turnWeightTwo_76 : decode cX7_turnWeightTwo 76 = .ok (.iload_n 1, 1) := @dq_o27 cX7_turnWeightTwo 76 (qX7_turnWeightTwo_4 12 27 rfl)
theorem dX7_turnWeightTwo_77 : decode cX7_turnWeightTwo 77 = .ok (.iadd, 1) := @dq_o96 cX7_turnWeightTwo 77 (qX7_turnWeightTwo_4 13 96 rfl)
theorem dX7_turnWeightTwo_78 : decode cX7_turnWeightTwo 78 = .ok (.bipush 6, 2) := @dq_o16 cX7_turnWeightTwo 78 6 (qX7_turnWeightTwo_4 14 16 rfl) (qX7_turnWeightTwo_4 15 6 rfl)
theorem dX7_turnWeightTwo_80 : decode cX7_turnWeightTwo 80 = .ok (.if_icmp .ge 25, 3) := @dq_o162 cX7_turnWeightTwo 80 0 25 (qX7_turnWeightTwo_5 0 162 rfl) (qX7_turnWeightTwo_5 1 0 rfl) (qX7_turnWeightTwo_5 2 25 rfl)
theorem dX7_turnWeightTwo_83 : decode cX7_turnWeightTwo 83 = .ok (.aload_n 0, 1) := @dq_o42 cX7_turnWeightTwo 83 (qX7_turnWeightTwo_5 3 42 rfl)
theorem dX7_turnWeightTwo_84 : decode cX7_turnWeightTwo 84 = .ok (.iload_n 1, 1) := @dq_o27 cX7_turnWeightTwo 84 (qX7_turnWeightTwo_5 4 27 rfl)
theorem dX7_turnWeightTwo_85 : decode cX7_turnWeightTwo 85 = .ok (.aload_n 0, 1) := @dq_o42 cX7_turnWeightTwo 85 (qX7_turnWeightTwo_5 5 42 rfl)
theorem dX7_turnWeightTwo_86 : decode cX7_turnWeightTwo 86 = .ok (.getfield 31, 3) := @dq_o180 cX7_turnWeightTwo 86 0 31 (qX7_turnWeightTwo_5 6 180 rfl) (qX7_turnWeightTwo_5 7 0 rfl) (qX7_turnWeightTwo_5 8 31 rfl)
theorem dX7_turnWeightTwo_89 : decode cX7_turnWeightTwo 89 = .ok (.aload_n 0, 1) := @dq_o42 cX7_turnWeightTwo 89 (qX7_turnWeightTwo_5 9 42 rfl)
theorem dX7_turnWeightTwo_90 : decode cX7_turnWeightTwo 90 = .ok (.getfield 44, 3) := @dq_o180 cX7_turnWeightTwo 90 0 44 (qX7_turnWeightTwo_5 10 180 rfl) (qX7_turnWeightTwo_5 11 0 rfl) (qX7_turnWeightTwo_5 12 44 rfl)
theorem dX7_turnWeightTwo_93 : decode cX7_turnWeightTwo 93 = .ok (.iload_n 1, 1) := @dq_o27 cX7_turnWeightTwo 93 (qX7_turnWeightTwo_5 13 27 rfl)
theorem dX7_turnWeightTwo_94 : decode cX7_turnWeightTwo 94 = .ok (.iadd, 1) := @dq_o96 cX7_turnWeightTwo 94 (qX7_turnWeightTwo_5 14 96 rfl)
theorem dX7_turnWeightTwo_95 : decode cX7_turnWeightTwo 95 = .ok (.laload, 1) := @dq_o47 cX7_turnWeightTwo 95 (qX7_turnWeightTwo_5 15 47 rfl)
theorem dX7_turnWeightTwo_96 : decode cX7_turnWeightTwo 96 = .ok (.invokevirtual 125, 3) := @dq_o182 cX7_turnWeightTwo 96 0 125 (qX7_turnWeightTwo_6 0 182 rfl) (qX7_turnWeightTwo_6 1 0 rfl) (qX7_turnWeightTwo_6 2 125 rfl)
theorem dX7_turnWeightTwo_99 : decode cX7_turnWeightTwo 99 = .ok (.iinc 1 1, 3) := @dq_o132 cX7_turnWeightTwo 99 1 1 (qX7_turnWeightTwo_6 3 132 rfl) (qX7_turnWeightTwo_6 4 1 rfl) (qX7_turnWeightTwo_6 5 1 rfl)
theorem dX7_turnWeightTwo_102 : decode cX7_turnWeightTwo 102 = .ok (.goto (-38), 3) := @dq_o167 cX7_turnWeightTwo 102 255 218 (qX7_turnWeightTwo_6 6 167 rfl) (qX7_turnWeightTwo_6 7 255 rfl) (qX7_turnWeightTwo_6 8 218 rfl)
theorem dX7_turnWeightTwo_105 : decode cX7_turnWeightTwo 105 = .ok (.iconst 1, 1) := @dq_o4 cX7_turnWeightTwo 105 (qX7_turnWeightTwo_6 9 4 rfl)
theorem dX7_turnWeightTwo_106 : decode cX7_turnWeightTwo 106 = .ok (.ireturn, 1) := @dq_o172 cX7_turnWeightTwo 106 (qX7_turnWeightTwo_6 10 172 rfl)
abbrev qaX7_findShifts_0 : List Nat := [42, 180, 0, 18, 42, 180, 0, 47, 182, 0, 154, 42, 180, 0, 44, 60]
abbrev qaX7_findShifts_1 : List Nat := [27, 42, 180, 0, 44, 42, 180, 0, 40, 96, 162, 0, 83, 27, 16, 6]
abbrev qaX7_findShifts_2 : List Nat := [162, 0, 77, 42, 180, 0, 12, 27, 182, 0, 162, 153, 0, 60, 42, 9]
abbrev qaX7_findShifts_3 : List Nat := [182, 0, 95, 3, 61, 28, 42, 180, 0, 40, 162, 0, 41, 42, 180, 0]
abbrev qaX7_findShifts_4 : List Nat := [44, 28, 96, 16, 6, 162, 0, 30, 42, 28, 42, 180, 0, 12, 180, 0]
abbrev qaX7_findShifts_5 : List Nat := [166, 27, 50, 42, 180, 0, 44, 28, 96, 47, 182, 0, 125, 132, 2, 1]
abbrev qaX7_findShifts_6 : List Nat := [167, 255, 213, 42, 182, 0, 170, 132, 1, 1, 167, 255, 166, 42, 180, 0]
abbrev qaX7_findShifts_7 : List Nat := [40, 60, 27, 42, 180, 0, 40, 42, 180, 0, 44, 96, 162, 0, 24, 42]
abbrev qaX7_findShifts_8 : List Nat := [9, 182, 0, 95, 42, 27, 10, 182, 0, 125, 42, 182, 0, 170, 132, 1]
abbrev qaX7_findShifts_9 : List Nat := [1, 167, 255, 225, 177]
def qtX7_findShifts_10 : List Nat := []
def qtX7_findShifts_9 : List Nat := qaX7_findShifts_9 ++ qtX7_findShifts_10
def qtX7_findShifts_8 : List Nat := qaX7_findShifts_8 ++ qtX7_findShifts_9
def qtX7_findShifts_7 : List Nat := qaX7_findShifts_7 ++ qtX7_findShifts_8
def qtX7_findShifts_6 : List Nat := qaX7_findShifts_6 ++ qtX7_findShifts_7
def qtX7_findShifts_5 : List Nat := qaX7_findShifts_5 ++ qtX7_findShifts_6
def qtX7_findShifts_4 : List Nat := qaX7_findShifts_4 ++ qtX7_findShifts_5
def qtX7_findShifts_3 : List Nat := qaX7_findShifts_3 ++ qtX7_findShifts_4
def qtX7_findShifts_2 : List Nat := qaX7_findShifts_2 ++ qtX7_findShifts_3
def qtX7_findShifts_1 : List Nat := qaX7_findShifts_1 ++ qtX7_findShifts_2
def qtX7_findShifts_0 : List Nat := qaX7_findShifts_0 ++ qtX7_findShifts_1
theorem qeX7_findShifts : cX7_findShifts.data.toList.map UInt8.toNat = qtX7_findShifts_0 := by decide +kernel
theorem qsX7_findShifts_0 : ∀ i, dqNth qtX7_findShifts_0 (0 + i) = dqNth qtX7_findShifts_0 i := fun i => by rw [Nat.zero_add]
theorem qsX7_findShifts_1 : ∀ i, dqNth qtX7_findShifts_0 (16 + i) = dqNth qtX7_findShifts_1 i := dq_step qsX7_findShifts_0 rfl rfl
theorem qsX7_findShifts_2 : ∀ i, dqNth qtX7_findShifts_0 (32 + i) = dqNth qtX7_findShifts_2 i := dq_step qsX7_findShifts_1 rfl rfl
theorem qsX7_findShifts_3 : ∀ i, dqNth qtX7_findShifts_0 (48 + i) = dqNth qtX7_findShifts_3 i := dq_step qsX7_findShifts_2 rfl rfl
theorem qsX7_findShifts_4 : ∀ i, dqNth qtX7_findShifts_0 (64 + i) = dqNth qtX7_findShifts_4 i := dq_step qsX7_findShifts_3 rfl rfl
theorem qsX7_findShifts_5 : ∀ i, dqNth qtX7_findShifts_0 (80 + i) = dqNth qtX7_findShifts_5 i := dq_step qsX7_findShifts_4 rfl rfl
theorem qsX7_findShifts_6 : ∀ i, dqNth qtX7_findShifts_0 (96 + i) = dqNth qtX7_findShifts_6 i := dq_step qsX7_findShifts_5 rfl rfl
theorem qsX7_findShifts_7 : ∀ i, dqNth qtX7_findShifts_0 (112 + i) = dqNth qtX7_findShifts_7 i := dq_step qsX7_findShifts_6 rfl rfl
theorem qsX7_findShifts_8 : ∀ i, dqNth qtX7_findShifts_0 (128 + i) = dqNth qtX7_findShifts_8 i := dq_step qsX7_findShifts_7 rfl rfl
theorem qsX7_findShifts_9 : ∀ i, dqNth qtX7_findShifts_0 (144 + i) = dqNth qtX7_findShifts_9 i := dq_step qsX7_findShifts_8 rfl rfl
theorem qX7_findShifts_0 (i b : Nat) (h : dqNth qaX7_findShifts_0 i = some b) : DqBy cX7_findShifts (0 + i) b := dqBy_of qeX7_findShifts ((qsX7_findShifts_0 i).trans (dq_in h))
theorem qX7_findShifts_1 (i b : Nat) (h : dqNth qaX7_findShifts_1 i = some b) : DqBy cX7_findShifts (16 + i) b := dqBy_of qeX7_findShifts ((qsX7_findShifts_1 i).trans (dq_in h))
theorem qX7_findShifts_2 (i b : Nat) (h : dqNth qaX7_findShifts_2 i = some b) : DqBy cX7_findShifts (32 + i) b := dqBy_of qeX7_findShifts ((qsX7_findShifts_2 i).trans (dq_in h))
theorem qX7_findShifts_3 (i b : Nat) (h : dqNth qaX7_findShifts_3 i = some b) : DqBy cX7_findShifts (48 + i) b := dqBy_of qeX7_findShifts ((qsX7_findShifts_3 i).trans (dq_in h))
theorem qX7_findShifts_4 (i b : Nat) (h : dqNth qaX7_findShifts_4 i = some b) : DqBy cX7_findShifts (64 + i) b := dqBy_of qeX7_findShifts ((qsX7_findShifts_4 i).trans (dq_in h))
theorem qX7_findShifts_5 (i b : Nat) (h : dqNth qaX7_findShifts_5 i = some b) : DqBy cX7_findShifts (80 + i) b := dqBy_of qeX7_findShifts ((qsX7_findShifts_5 i).trans (dq_in h))
theorem qX7_findShifts_6 (i b : Nat) (h : dqNth qaX7_findShifts_6 i = some b) : DqBy cX7_findShifts (96 + i) b := dqBy_of qeX7_findShifts ((qsX7_findShifts_6 i).trans (dq_in h))
theorem qX7_findShifts_7 (i b : Nat) (h : dqNth qaX7_findShifts_7 i = some b) : DqBy cX7_findShifts (112 + i) b := dqBy_of qeX7_findShifts ((qsX7_findShifts_7 i).trans (dq_in h))
theorem qX7_findShifts_8 (i b : Nat) (h : dqNth qaX7_findShifts_8 i = some b) : DqBy cX7_findShifts (128 + i) b := dqBy_of qeX7_findShifts ((qsX7_findShifts_8 i).trans (dq_in h))
theorem qX7_findShifts_9 (i b : Nat) (h : dqNth qaX7_findShifts_9 i = some b) : DqBy cX7_findShifts (144 + i) b := dqBy_of qeX7_findShifts ((qsX7_findShifts_9 i).trans (dq_in h))
theorem dX7_findShifts_0 : decode cX7_findShifts 0 = .ok (.aload_n 0, 1) := @dq_o42 cX7_findShifts 0 (qX7_findShifts_0 0 42 rfl)
theorem dX7_findShifts_1 : decode cX7_findShifts 1 = .ok (.getfield 18, 3) := @dq_o180 cX7_findShifts 1 0 18 (qX7_findShifts_0 1 180 rfl) (qX7_findShifts_0 2 0 rfl) (qX7_findShifts_0 3 18 rfl)
theorem dX7_findShifts_4 : decode cX7_findShifts 4 = .ok (.aload_n 0, 1) := @dq_o42 cX7_findShifts 4 (qX7_findShifts_0 4 42 rfl)
theorem dX7_findShifts_5 : decode cX7_findShifts 5 = .ok (.getfield 47, 3) := @dq_o180 cX7_findShifts 5 0 47 (qX7_findShifts_0 5 180 rfl) (qX7_findShifts_0 6 0 rfl) (qX7_findShifts_0 7 47 rfl)
theorem dX7_findShifts_8 : decode cX7_findShifts 8 = .ok (.invokevirtual 154, 3) := @dq_o182 cX7_findShifts 8 0 154 (qX7_findShifts_0 8 182 rfl) (qX7_findShifts_0 9 0 rfl) (qX7_findShifts_0 10 154 rfl)
theorem dX7_findShifts_11 : decode cX7_findShifts 11 = .ok (.aload_n 0, 1) := @dq_o42 cX7_findShifts 11 (qX7_findShifts_0 11 42 rfl)
theorem dX7_findShifts_12 : decode cX7_findShifts 12 = .ok (.getfield 44, 3) := @dq_o180 cX7_findShifts 12 0 44 (qX7_findShifts_0 12 180 rfl) (qX7_findShifts_0 13 0 rfl) (qX7_findShifts_0 14 44 rfl)
theorem dX7_findShifts_15 : decode cX7_findShifts 15 = .ok (.istore_n 1, 1) := @dq_o60 cX7_findShifts 15 (qX7_findShifts_0 15 60 rfl)
theorem dX7_findShifts_16 : decode cX7_findShifts 16 = .ok (.iload_n 1, 1) := @dq_o27 cX7_findShifts 16 (qX7_findShifts_1 0 27 rfl)
theorem dX7_findShifts_17 : decode cX7_findShifts 17 = .ok (.aload_n 0, 1) := @dq_o42 cX7_findShifts 17 (qX7_findShifts_1 1 42 rfl)
theorem dX7_findShifts_18 : decode cX7_findShifts 18 = .ok (.getfield 44, 3) := @dq_o180 cX7_findShifts 18 0 44 (qX7_findShifts_1 2 180 rfl) (qX7_findShifts_1 3 0 rfl) (qX7_findShifts_1 4 44 rfl)
theorem dX7_findShifts_21 : decode cX7_findShifts 21 = .ok (.aload_n 0, 1) := @dq_o42 cX7_findShifts 21 (qX7_findShifts_1 5 42 rfl)
theorem dX7_findShifts_22 : decode cX7_findShifts 22 = .ok (.getfield 40, 3) := @dq_o180 cX7_findShifts 22 0 40 (qX7_findShifts_1 6 180 rfl) (qX7_findShifts_1 7 0 rfl) (qX7_findShifts_1 8 40 rfl)
theorem dX7_findShifts_25 : decode cX7_findShifts 25 = .ok (.iadd, 1) := @dq_o96 cX7_findShifts 25 (qX7_findShifts_1 9 96 rfl)
theorem dX7_findShifts_26 : decode cX7_findShifts 26 = .ok (.if_icmp .ge 83, 3) := @dq_o162 cX7_findShifts 26 0 83 (qX7_findShifts_1 10 162 rfl) (qX7_findShifts_1 11 0 rfl) (qX7_findShifts_1 12 83 rfl)
theorem dX7_findShifts_29 : decode cX7_findShifts 29 = .ok (.iload_n 1, 1) := @dq_o27 cX7_findShifts 29 (qX7_findShifts_1 13 27 rfl)
theorem dX7_findShifts_30 : decode cX7_findShifts 30 = .ok (.bipush 6, 2) := @dq_o16 cX7_findShifts 30 6 (qX7_findShifts_1 14 16 rfl) (qX7_findShifts_1 15 6 rfl)
theorem dX7_findShifts_32 : decode cX7_findShifts 32 = .ok (.if_icmp .ge 77, 3) := @dq_o162 cX7_findShifts 32 0 77 (qX7_findShifts_2 0 162 rfl) (qX7_findShifts_2 1 0 rfl) (qX7_findShifts_2 2 77 rfl)
theorem dX7_findShifts_35 : decode cX7_findShifts 35 = .ok (.aload_n 0, 1) := @dq_o42 cX7_findShifts 35 (qX7_findShifts_2 3 42 rfl)
theorem dX7_findShifts_36 : decode cX7_findShifts 36 = .ok (.getfield 12, 3) := @dq_o180 cX7_findShifts 36 0 12 (qX7_findShifts_2 4 180 rfl) (qX7_findShifts_2 5 0 rfl) (qX7_findShifts_2 6 12 rfl)
theorem dX7_findShifts_39 : decode cX7_findShifts 39 = .ok (.iload_n 1, 1) := @dq_o27 cX7_findShifts 39 (qX7_findShifts_2 7 27 rfl)
theorem dX7_findShifts_40 : decode cX7_findShifts 40 = .ok (.invokevirtual 162, 3) := @dq_o182 cX7_findShifts 40 0 162 (qX7_findShifts_2 8 182 rfl) (qX7_findShifts_2 9 0 rfl) (qX7_findShifts_2 10 162 rfl)
theorem dX7_findShifts_43 : decode cX7_findShifts 43 = .ok (.ifCond .eq 60, 3) := @dq_o153 cX7_findShifts 43 0 60 (qX7_findShifts_2 11 153 rfl) (qX7_findShifts_2 12 0 rfl) (qX7_findShifts_2 13 60 rfl)
theorem dX7_findShifts_46 : decode cX7_findShifts 46 = .ok (.aload_n 0, 1) := @dq_o42 cX7_findShifts 46 (qX7_findShifts_2 14 42 rfl)
theorem dX7_findShifts_47 : decode cX7_findShifts 47 = .ok (.lconst 0, 1) := @dq_o9 cX7_findShifts 47 (qX7_findShifts_2 15 9 rfl)
theorem dX7_findShifts_48 : decode cX7_findShifts 48 = .ok (.invokevirtual 95, 3) := @dq_o182 cX7_findShifts 48 0 95 (qX7_findShifts_3 0 182 rfl) (qX7_findShifts_3 1 0 rfl) (qX7_findShifts_3 2 95 rfl)
theorem dX7_findShifts_51 : decode cX7_findShifts 51 = .ok (.iconst 0, 1) := @dq_o3 cX7_findShifts 51 (qX7_findShifts_3 3 3 rfl)
theorem dX7_findShifts_52 : decode cX7_findShifts 52 = .ok (.istore_n 2, 1) := @dq_o61 cX7_findShifts 52 (qX7_findShifts_3 4 61 rfl)
theorem dX7_findShifts_53 : decode cX7_findShifts 53 = .ok (.iload_n 2, 1) := @dq_o28 cX7_findShifts 53 (qX7_findShifts_3 5 28 rfl)
theorem dX7_findShifts_54 : decode cX7_findShifts 54 = .ok (.aload_n 0, 1) := @dq_o42 cX7_findShifts 54 (qX7_findShifts_3 6 42 rfl)
theorem dX7_findShifts_55 : decode cX7_findShifts 55 = .ok (.getfield 40, 3) := @dq_o180 cX7_findShifts 55 0 40 (qX7_findShifts_3 7 180 rfl) (qX7_findShifts_3 8 0 rfl) (qX7_findShifts_3 9 40 rfl)
theorem dX7_findShifts_58 : decode cX7_findShifts 58 = .ok (.if_icmp .ge 41, 3) := @dq_o162 cX7_findShifts 58 0 41 (qX7_findShifts_3 10 162 rfl) (qX7_findShifts_3 11 0 rfl) (qX7_findShifts_3 12 41 rfl)
theorem dX7_findShifts_61 : decode cX7_findShifts 61 = .ok (.aload_n 0, 1) := @dq_o42 cX7_findShifts 61 (qX7_findShifts_3 13 42 rfl)
theorem dX7_findShifts_62 : decode cX7_findShifts 62 = .ok (.getfield 44, 3) := @dq_o180 cX7_findShifts 62 0 44 (qX7_findShifts_3 14 180 rfl) (qX7_findShifts_3 15 0 rfl) (qX7_findShifts_4 0 44 rfl)
theorem dX7_findShifts_65 : decode cX7_findShifts 65 = .ok (.iload_n 2, 1) := @dq_o28 cX7_findShifts 65 (qX7_findShifts_4 1 28 rfl)
theorem dX7_findShifts_66 : decode cX7_findShifts 66 = .ok (.iadd, 1) := @dq_o96 cX7_findShifts 66 (qX7_findShifts_4 2 96 rfl)
theorem dX7_findShifts_67 : decode cX7_findShifts 67 = .ok (.bipush 6, 2) := @dq_o16 cX7_findShifts 67 6 (qX7_findShifts_4 3 16 rfl) (qX7_findShifts_4 4 6 rfl)
theorem dX7_findShifts_69 : decode cX7_findShifts 69 = .ok (.if_icmp .ge 30, 3) := @dq_o162 cX7_findShifts 69 0 30 (qX7_findShifts_4 5 162 rfl) (qX7_findShifts_4 6 0 rfl) (qX7_findShifts_4 7 30 rfl)
theorem dX7_findShifts_72 : decode cX7_findShifts 72 = .ok (.aload_n 0, 1) := @dq_o42 cX7_findShifts 72 (qX7_findShifts_4 8 42 rfl)
theorem dX7_findShifts_73 : decode cX7_findShifts 73 = .ok (.iload_n 2, 1) := @dq_o28 cX7_findShifts 73 (qX7_findShifts_4 9 28 rfl)
theorem dX7_findShifts_74 : decode cX7_findShifts 74 = .ok (.aload_n 0, 1) := @dq_o42 cX7_findShifts 74 (qX7_findShifts_4 10 42 rfl)
theorem dX7_findShifts_75 : decode cX7_findShifts 75 = .ok (.getfield 12, 3) := @dq_o180 cX7_findShifts 75 0 12 (qX7_findShifts_4 11 180 rfl) (qX7_findShifts_4 12 0 rfl) (qX7_findShifts_4 13 12 rfl)
theorem dX7_findShifts_78 : decode cX7_findShifts 78 = .ok (.getfield 166, 3) := @dq_o180 cX7_findShifts 78 0 166 (qX7_findShifts_4 14 180 rfl) (qX7_findShifts_4 15 0 rfl) (qX7_findShifts_5 0 166 rfl)
theorem dX7_findShifts_81 : decode cX7_findShifts 81 = .ok (.iload_n 1, 1) := @dq_o27 cX7_findShifts 81 (qX7_findShifts_5 1 27 rfl)
theorem dX7_findShifts_82 : decode cX7_findShifts 82 = .ok (.aaload, 1) := @dq_o50 cX7_findShifts 82 (qX7_findShifts_5 2 50 rfl)
theorem dX7_findShifts_83 : decode cX7_findShifts 83 = .ok (.aload_n 0, 1) := @dq_o42 cX7_findShifts 83 (qX7_findShifts_5 3 42 rfl)
theorem dX7_findShifts_84 : decode cX7_findShifts 84 = .ok (.getfield 44, 3) := @dq_o180 cX7_findShifts 84 0 44 (qX7_findShifts_5 4 180 rfl) (qX7_findShifts_5 5 0 rfl) (qX7_findShifts_5 6 44 rfl)
theorem dX7_findShifts_87 : decode cX7_findShifts 87 = .ok (.iload_n 2, 1) := @dq_o28 cX7_findShifts 87 (qX7_findShifts_5 7 28 rfl)
theorem dX7_findShifts_88 : decode cX7_findShifts 88 = .ok (.iadd, 1) := @dq_o96 cX7_findShifts 88 (qX7_findShifts_5 8 96 rfl)
theorem dX7_findShifts_89 : decode cX7_findShifts 89 = .ok (.laload, 1) := @dq_o47 cX7_findShifts 89 (qX7_findShifts_5 9 47 rfl)
theorem dX7_findShifts_90 : decode cX7_findShifts 90 = .ok (.invokevirtual 125, 3) := @dq_o182 cX7_findShifts 90 0 125 (qX7_findShifts_5 10 182 rfl) (qX7_findShifts_5 11 0 rfl) (qX7_findShifts_5 12 125 rfl)
theorem dX7_findShifts_93 : decode cX7_findShifts 93 = .ok (.iinc 2 1, 3) := @dq_o132 cX7_findShifts 93 2 1 (qX7_findShifts_5 13 132 rfl) (qX7_findShifts_5 14 2 rfl) (qX7_findShifts_5 15 1 rfl)
theorem dX7_findShifts_96 : decode cX7_findShifts 96 = .ok (.goto (-43), 3) := @dq_o167 cX7_findShifts 96 255 213 (qX7_findShifts_6 0 167 rfl) (qX7_findShifts_6 1 255 rfl) (qX7_findShifts_6 2 213 rfl)
theorem dX7_findShifts_99 : decode cX7_findShifts 99 = .ok (.aload_n 0, 1) := @dq_o42 cX7_findShifts 99 (qX7_findShifts_6 3 42 rfl)
theorem dX7_findShifts_100 : decode cX7_findShifts 100 = .ok (.invokevirtual 170, 3) := @dq_o182 cX7_findShifts 100 0 170 (qX7_findShifts_6 4 182 rfl) (qX7_findShifts_6 5 0 rfl) (qX7_findShifts_6 6 170 rfl)
theorem dX7_findShifts_103 : decode cX7_findShifts 103 = .ok (.iinc 1 1, 3) := @dq_o132 cX7_findShifts 103 1 1 (qX7_findShifts_6 7 132 rfl) (qX7_findShifts_6 8 1 rfl) (qX7_findShifts_6 9 1 rfl)
theorem dX7_findShifts_106 : decode cX7_findShifts 106 = .ok (.goto (-90), 3) := @dq_o167 cX7_findShifts 106 255 166 (qX7_findShifts_6 10 167 rfl) (qX7_findShifts_6 11 255 rfl) (qX7_findShifts_6 12 166 rfl)
theorem dX7_findShifts_109 : decode cX7_findShifts 109 = .ok (.aload_n 0, 1) := @dq_o42 cX7_findShifts 109 (qX7_findShifts_6 13 42 rfl)
theorem dX7_findShifts_110 : decode cX7_findShifts 110 = .ok (.getfield 40, 3) := @dq_o180 cX7_findShifts 110 0 40 (qX7_findShifts_6 14 180 rfl) (qX7_findShifts_6 15 0 rfl) (qX7_findShifts_7 0 40 rfl)
theorem dX7_findShifts_113 : decode cX7_findShifts 113 = .ok (.istore_n 1, 1) := @dq_o60 cX7_findShifts 113 (qX7_findShifts_7 1 60 rfl)
theorem dX7_findShifts_114 : decode cX7_findShifts 114 = .ok (.iload_n 1, 1) := @dq_o27 cX7_findShifts 114 (qX7_findShifts_7 2 27 rfl)
theorem dX7_findShifts_115 : decode cX7_findShifts 115 = .ok (.aload_n 0, 1) := @dq_o42 cX7_findShifts 115 (qX7_findShifts_7 3 42 rfl)
theorem dX7_findShifts_116 : decode cX7_findShifts 116 = .ok (.getfield 40, 3) := @dq_o180 cX7_findShifts 116 0 40 (qX7_findShifts_7 4 180 rfl) (qX7_findShifts_7 5 0 rfl) (qX7_findShifts_7 6 40 rfl)
theorem dX7_findShifts_119 : decode cX7_findShifts 119 = .ok (.aload_n 0, 1) := @dq_o42 cX7_findShifts 119 (qX7_findShifts_7 7 42 rfl)
theorem dX7_findShifts_120 : decode cX7_findShifts 120 = .ok (.getfield 44, 3) := @dq_o180 cX7_findShifts 120 0 44 (qX7_findShifts_7 8 180 rfl) (qX7_findShifts_7 9 0 rfl) (qX7_findShifts_7 10 44 rfl)
theorem dX7_findShifts_123 : decode cX7_findShifts 123 = .ok (.iadd, 1) := @dq_o96 cX7_findShifts 123 (qX7_findShifts_7 11 96 rfl)
theorem dX7_findShifts_124 : decode cX7_findShifts 124 = .ok (.if_icmp .ge 24, 3) := @dq_o162 cX7_findShifts 124 0 24 (qX7_findShifts_7 12 162 rfl) (qX7_findShifts_7 13 0 rfl) (qX7_findShifts_7 14 24 rfl)
theorem dX7_findShifts_127 : decode cX7_findShifts 127 = .ok (.aload_n 0, 1) := @dq_o42 cX7_findShifts 127 (qX7_findShifts_7 15 42 rfl)
theorem dX7_findShifts_128 : decode cX7_findShifts 128 = .ok (.lconst 0, 1) := @dq_o9 cX7_findShifts 128 (qX7_findShifts_8 0 9 rfl)
theorem dX7_findShifts_129 : decode cX7_findShifts 129 = .ok (.invokevirtual 95, 3) := @dq_o182 cX7_findShifts 129 0 95 (qX7_findShifts_8 1 182 rfl) (qX7_findShifts_8 2 0 rfl) (qX7_findShifts_8 3 95 rfl)
theorem dX7_findShifts_132 : decode cX7_findShifts 132 = .ok (.aload_n 0, 1) := @dq_o42 cX7_findShifts 132 (qX7_findShifts_8 4 42 rfl)
theorem dX7_findShifts_133 : decode cX7_findShifts 133 = .ok (.iload_n 1, 1) := @dq_o27 cX7_findShifts 133 (qX7_findShifts_8 5 27 rfl)
theorem dX7_findShifts_134 : decode cX7_findShifts 134 = .ok (.lconst 1, 1) := @dq_o10 cX7_findShifts 134 (qX7_findShifts_8 6 10 rfl)
theorem dX7_findShifts_135 : decode cX7_findShifts 135 = .ok (.invokevirtual 125, 3) := @dq_o182 cX7_findShifts 135 0 125 (qX7_findShifts_8 7 182 rfl) (qX7_findShifts_8 8 0 rfl) (qX7_findShifts_8 9 125 rfl)
theorem dX7_findShifts_138 : decode cX7_findShifts 138 = .ok (.aload_n 0, 1) := @dq_o42 cX7_findShifts 138 (qX7_findShifts_8 10 42 rfl)
theorem dX7_findShifts_139 : decode cX7_findShifts 139 = .ok (.invokevirtual 170, 3) := @dq_o182 cX7_findShifts 139 0 170 (qX7_findShifts_8 11 182 rfl) (qX7_findShifts_8 12 0 rfl) (qX7_findShifts_8 13 170 rfl)
theorem dX7_findShifts_142 : decode cX7_findShifts 142 = .ok (.iinc 1 1, 3) := @dq_o132 cX7_findShifts 142 1 1 (qX7_findShifts_8 14 132 rfl) (qX7_findShifts_8 15 1 rfl) (qX7_findShifts_9 0 1 rfl)
theorem dX7_findShifts_145 : decode cX7_findShifts 145 = .ok (.goto (-31), 3) := @dq_o167 cX7_findShifts 145 255 225 (qX7_findShifts_9 1 167 rfl) (qX7_findShifts_9 2 255 rfl) (qX7_findShifts_9 3 225 rfl)
theorem dX7_findShifts_148 : decode cX7_findShifts 148 = .ok (.return_, 1) := @dq_o177 cX7_findShifts 148 (qX7_findShifts_9 4 177 rfl)
abbrev qaX7_insertShift_0 : List Nat := [42, 42, 180, 0, 40, 42, 180, 0, 44, 96, 42, 180, 0, 47, 42, 180]
abbrev qaX7_insertShift_1 : List Nat := [0, 31, 182, 0, 143, 42, 180, 0, 18, 42, 180, 0, 31, 182, 0, 158]
abbrev qaX7_insertShift_2 : List Nat := [177]
def qtX7_insertShift_3 : List Nat := []
def qtX7_insertShift_2 : List Nat := qaX7_insertShift_2 ++ qtX7_insertShift_3
def qtX7_insertShift_1 : List Nat := qaX7_insertShift_1 ++ qtX7_insertShift_2
def qtX7_insertShift_0 : List Nat := qaX7_insertShift_0 ++ qtX7_insertShift_1
theorem qeX7_insertShift : cX7_insertShift.data.toList.map UInt8.toNat = qtX7_insertShift_0 := by decide +kernel
theorem qsX7_insertShift_0 : ∀ i, dqNth qtX7_insertShift_0 (0 + i) = dqNth qtX7_insertShift_0 i := fun i => by rw [Nat.zero_add]
theorem qsX7_insertShift_1 : ∀ i, dqNth qtX7_insertShift_0 (16 + i) = dqNth qtX7_insertShift_1 i := dq_step qsX7_insertShift_0 rfl rfl
theorem qsX7_insertShift_2 : ∀ i, dqNth qtX7_insertShift_0 (32 + i) = dqNth qtX7_insertShift_2 i := dq_step qsX7_insertShift_1 rfl rfl
theorem qX7_insertShift_0 (i b : Nat) (h : dqNth qaX7_insertShift_0 i = some b) : DqBy cX7_insertShift (0 + i) b := dqBy_of qeX7_insertShift ((qsX7_insertShift_0 i).trans (dq_in h))
theorem qX7_insertShift_1 (i b : Nat) (h : dqNth qaX7_insertShift_1 i = some b) : DqBy cX7_insertShift (16 + i) b := dqBy_of qeX7_insertShift ((qsX7_insertShift_1 i).trans (dq_in h))
theorem qX7_insertShift_2 (i b : Nat) (h : dqNth qaX7_insertShift_2 i = some b) : DqBy cX7_insertShift (32 + i) b := dqBy_of qeX7_insertShift ((qsX7_insertShift_2 i).trans (dq_in h))
theorem dX7_insertShift_0 : decode cX7_insertShift 0 = .ok (.aload_n 0, 1) := @dq_o42 cX7_insertShift 0 (qX7_insertShift_0 0 42 rfl)
theorem dX7_insertShift_1 : decode cX7_insertShift 1 = .ok (.aload_n 0, 1) := @dq_o42 cX7_insertShift 1 (qX7_insertShift_0 1 42 rfl)
theorem dX7_insertShift_2 : decode cX7_insertShift 2 = .ok (.getfield 40, 3) := @dq_o180 cX7_insertShift 2 0 40 (qX7_insertShift_0 2 180 rfl) (qX7_insertShift_0 3 0 rfl) (qX7_insertShift_0 4 40 rfl)
theorem dX7_insertShift_5 : decode cX7_insertShift 5 = .ok (.aload_n 0, 1) := @dq_o42 cX7_insertShift 5 (qX7_insertShift_0 5 42 rfl)
theorem dX7_insertShift_6 : decode cX7_insertShift 6 = .ok (.getfield 44, 3) := @dq_o180 cX7_insertShift 6 0 44 (qX7_insertShift_0 6 180 rfl) (qX7_insertShift_0 7 0 rfl) (qX7_insertShift_0 8 44 rfl)
theorem dX7_insertShift_9 : decode cX7_insertShift 9 = .ok (.iadd, 1) := @dq_o96 cX7_insertShift 9 (qX7_insertShift_0 9 96 rfl)
theorem dX7_insertShift_10 : decode cX7_insertShift 10 = .ok (.aload_n 0, 1) := @dq_o42 cX7_insertShift 10 (qX7_insertShift_0 10 42 rfl)
theorem dX7_insertShift_11 : decode cX7_insertShift 11 = .ok (.getfield 47, 3) := @dq_o180 cX7_insertShift 11 0 47 (qX7_insertShift_0 11 180 rfl) (qX7_insertShift_0 12 0 rfl) (qX7_insertShift_0 13 47 rfl)
theorem dX7_insertShift_14 : decode cX7_insertShift 14 = .ok (.aload_n 0, 1) := @dq_o42 cX7_insertShift 14 (qX7_insertShift_0 14 42 rfl)
theorem dX7_insertShift_15 : decode cX7_insertShift 15 = .ok (.getfield 31, 3) := @dq_o180 cX7_insertShift 15 0 31 (qX7_insertShift_0 15 180 rfl) (qX7_insertShift_1 0 0 rfl) (qX7_insertShift_1 1 31 rfl)
theorem dX7_insertShift_18 : decode cX7_insertShift 18 = .ok (.invokevirtual 143, 3) := @dq_o182 cX7_insertShift 18 0 143 (qX7_insertShift_1 2 182 rfl) (qX7_insertShift_1 3 0 rfl) (qX7_insertShift_1 4 143 rfl)
theorem dX7_insertShift_21 : decode cX7_insertShift 21 = .ok (.aload_n 0, 1) := @dq_o42 cX7_insertShift 21 (qX7_insertShift_1 5 42 rfl)
theorem dX7_insertShift_22 : decode cX7_insertShift 22 = .ok (.getfield 18, 3) := @dq_o180 cX7_insertShift 22 0 18 (qX7_insertShift_1 6 180 rfl) (qX7_insertShift_1 7 0 rfl) (qX7_insertShift_1 8 18 rfl)
theorem dX7_insertShift_25 : decode cX7_insertShift 25 = .ok (.aload_n 0, 1) := @dq_o42 cX7_insertShift 25 (qX7_insertShift_1 9 42 rfl)
theorem dX7_insertShift_26 : decode cX7_insertShift 26 = .ok (.getfield 31, 3) := @dq_o180 cX7_insertShift 26 0 31 (qX7_insertShift_1 10 180 rfl) (qX7_insertShift_1 11 0 rfl) (qX7_insertShift_1 12 31 rfl)
theorem dX7_insertShift_29 : decode cX7_insertShift 29 = .ok (.invokevirtual 158, 3) := @dq_o182 cX7_insertShift 29 0 158 (qX7_insertShift_1 13 182 rfl) (qX7_insertShift_1 14 0 rfl) (qX7_insertShift_1 15 158 rfl)
theorem dX7_insertShift_32 : decode cX7_insertShift 32 = .ok (.return_, 1) := @dq_o177 cX7_insertShift 32 (qX7_insertShift_2 0 177 rfl)
abbrev qaX7_copyGaps_0 : List Nat := [45, 9, 184, 0, 173, 3, 54, 4, 21, 4, 28, 162, 0, 38, 27, 21]
abbrev qaX7_copyGaps_1 : List Nat := [4, 96, 16, 6, 162, 0, 29, 45, 21, 4, 42, 180, 0, 23, 27, 21]
abbrev qaX7_copyGaps_2 : List Nat := [4, 96, 50, 42, 180, 0, 27, 182, 0, 129, 80, 132, 4, 1, 167, 255]
abbrev qaX7_copyGaps_3 : List Nat := [218, 177]
def qtX7_copyGaps_4 : List Nat := []
def qtX7_copyGaps_3 : List Nat := qaX7_copyGaps_3 ++ qtX7_copyGaps_4
def qtX7_copyGaps_2 : List Nat := qaX7_copyGaps_2 ++ qtX7_copyGaps_3
def qtX7_copyGaps_1 : List Nat := qaX7_copyGaps_1 ++ qtX7_copyGaps_2
def qtX7_copyGaps_0 : List Nat := qaX7_copyGaps_0 ++ qtX7_copyGaps_1
theorem qeX7_copyGaps : cX7_copyGaps.data.toList.map UInt8.toNat = qtX7_copyGaps_0 := by decide +kernel
theorem qsX7_copyGaps_0 : ∀ i, dqNth qtX7_copyGaps_0 (0 + i) = dqNth qtX7_copyGaps_0 i := fun i => by rw [Nat.zero_add]
theorem qsX7_copyGaps_1 : ∀ i, dqNth qtX7_copyGaps_0 (16 + i) = dqNth qtX7_copyGaps_1 i := dq_step qsX7_copyGaps_0 rfl rfl
theorem qsX7_copyGaps_2 : ∀ i, dqNth qtX7_copyGaps_0 (32 + i) = dqNth qtX7_copyGaps_2 i := dq_step qsX7_copyGaps_1 rfl rfl
theorem qsX7_copyGaps_3 : ∀ i, dqNth qtX7_copyGaps_0 (48 + i) = dqNth qtX7_copyGaps_3 i := dq_step qsX7_copyGaps_2 rfl rfl
theorem qX7_copyGaps_0 (i b : Nat) (h : dqNth qaX7_copyGaps_0 i = some b) : DqBy cX7_copyGaps (0 + i) b := dqBy_of qeX7_copyGaps ((qsX7_copyGaps_0 i).trans (dq_in h))
theorem qX7_copyGaps_1 (i b : Nat) (h : dqNth qaX7_copyGaps_1 i = some b) : DqBy cX7_copyGaps (16 + i) b := dqBy_of qeX7_copyGaps ((qsX7_copyGaps_1 i).trans (dq_in h))
theorem qX7_copyGaps_2 (i b : Nat) (h : dqNth qaX7_copyGaps_2 i = some b) : DqBy cX7_copyGaps (32 + i) b := dqBy_of qeX7_copyGaps ((qsX7_copyGaps_2 i).trans (dq_in h))
theorem qX7_copyGaps_3 (i b : Nat) (h : dqNth qaX7_copyGaps_3 i = some b) : DqBy cX7_copyGaps (48 + i) b := dqBy_of qeX7_copyGaps ((qsX7_copyGaps_3 i).trans (dq_in h))
theorem dX7_copyGaps_0 : decode cX7_copyGaps 0 = .ok (.aload_n 3, 1) := @dq_o45 cX7_copyGaps 0 (qX7_copyGaps_0 0 45 rfl)
theorem dX7_copyGaps_1 : decode cX7_copyGaps 1 = .ok (.lconst 0, 1) := @dq_o9 cX7_copyGaps 1 (qX7_copyGaps_0 1 9 rfl)
theorem dX7_copyGaps_2 : decode cX7_copyGaps 2 = .ok (.invokestatic 173, 3) := @dq_o184 cX7_copyGaps 2 0 173 (qX7_copyGaps_0 2 184 rfl) (qX7_copyGaps_0 3 0 rfl) (qX7_copyGaps_0 4 173 rfl)
theorem dX7_copyGaps_5 : decode cX7_copyGaps 5 = .ok (.iconst 0, 1) := @dq_o3 cX7_copyGaps 5 (qX7_copyGaps_0 5 3 rfl)
theorem dX7_copyGaps_6 : decode cX7_copyGaps 6 = .ok (.istore 4, 2) := @dq_o54 cX7_copyGaps 6 4 (qX7_copyGaps_0 6 54 rfl) (qX7_copyGaps_0 7 4 rfl)
theorem dX7_copyGaps_8 : decode cX7_copyGaps 8 = .ok (.iload 4, 2) := @dq_o21 cX7_copyGaps 8 4 (qX7_copyGaps_0 8 21 rfl) (qX7_copyGaps_0 9 4 rfl)
theorem dX7_copyGaps_10 : decode cX7_copyGaps 10 = .ok (.iload_n 2, 1) := @dq_o28 cX7_copyGaps 10 (qX7_copyGaps_0 10 28 rfl)
theorem dX7_copyGaps_11 : decode cX7_copyGaps 11 = .ok (.if_icmp .ge 38, 3) := @dq_o162 cX7_copyGaps 11 0 38 (qX7_copyGaps_0 11 162 rfl) (qX7_copyGaps_0 12 0 rfl) (qX7_copyGaps_0 13 38 rfl)
theorem dX7_copyGaps_14 : decode cX7_copyGaps 14 = .ok (.iload_n 1, 1) := @dq_o27 cX7_copyGaps 14 (qX7_copyGaps_0 14 27 rfl)
theorem dX7_copyGaps_15 : decode cX7_copyGaps 15 = .ok (.iload 4, 2) := @dq_o21 cX7_copyGaps 15 4 (qX7_copyGaps_0 15 21 rfl) (qX7_copyGaps_1 0 4 rfl)
theorem dX7_copyGaps_17 : decode cX7_copyGaps 17 = .ok (.iadd, 1) := @dq_o96 cX7_copyGaps 17 (qX7_copyGaps_1 1 96 rfl)
theorem dX7_copyGaps_18 : decode cX7_copyGaps 18 = .ok (.bipush 6, 2) := @dq_o16 cX7_copyGaps 18 6 (qX7_copyGaps_1 2 16 rfl) (qX7_copyGaps_1 3 6 rfl)
theorem dX7_copyGaps_20 : decode cX7_copyGaps 20 = .ok (.if_icmp .ge 29, 3) := @dq_o162 cX7_copyGaps 20 0 29 (qX7_copyGaps_1 4 162 rfl) (qX7_copyGaps_1 5 0 rfl) (qX7_copyGaps_1 6 29 rfl)
theorem dX7_copyGaps_23 : decode cX7_copyGaps 23 = .ok (.aload_n 3, 1) := @dq_o45 cX7_copyGaps 23 (qX7_copyGaps_1 7 45 rfl)
theorem dX7_copyGaps_24 : decode cX7_copyGaps 24 = .ok (.iload 4, 2) := @dq_o21 cX7_copyGaps 24 4 (qX7_copyGaps_1 8 21 rfl) (qX7_copyGaps_1 9 4 rfl)
theorem dX7_copyGaps_26 : decode cX7_copyGaps 26 = .ok (.aload_n 0, 1) := @dq_o42 cX7_copyGaps 26 (qX7_copyGaps_1 10 42 rfl)
theorem dX7_copyGaps_27 : decode cX7_copyGaps 27 = .ok (.getfield 23, 3) := @dq_o180 cX7_copyGaps 27 0 23 (qX7_copyGaps_1 11 180 rfl) (qX7_copyGaps_1 12 0 rfl) (qX7_copyGaps_1 13 23 rfl)
theorem dX7_copyGaps_30 : decode cX7_copyGaps 30 = .ok (.iload_n 1, 1) := @dq_o27 cX7_copyGaps 30 (qX7_copyGaps_1 14 27 rfl)
theorem dX7_copyGaps_31 : decode cX7_copyGaps 31 = .ok (.iload 4, 2) := @dq_o21 cX7_copyGaps 31 4 (qX7_copyGaps_1 15 21 rfl) (qX7_copyGaps_2 0 4 rfl)
theorem dX7_copyGaps_33 : decode cX7_copyGaps 33 = .ok (.iadd, 1) := @dq_o96 cX7_copyGaps 33 (qX7_copyGaps_2 1 96 rfl)
theorem dX7_copyGaps_34 : decode cX7_copyGaps 34 = .ok (.aaload, 1) := @dq_o50 cX7_copyGaps 34 (qX7_copyGaps_2 2 50 rfl)
theorem dX7_copyGaps_35 : decode cX7_copyGaps 35 = .ok (.aload_n 0, 1) := @dq_o42 cX7_copyGaps 35 (qX7_copyGaps_2 3 42 rfl)
theorem dX7_copyGaps_36 : decode cX7_copyGaps 36 = .ok (.getfield 27, 3) := @dq_o180 cX7_copyGaps 36 0 27 (qX7_copyGaps_2 4 180 rfl) (qX7_copyGaps_2 5 0 rfl) (qX7_copyGaps_2 6 27 rfl)
theorem dX7_copyGaps_39 : decode cX7_copyGaps 39 = .ok (.invokevirtual 129, 3) := @dq_o182 cX7_copyGaps 39 0 129 (qX7_copyGaps_2 7 182 rfl) (qX7_copyGaps_2 8 0 rfl) (qX7_copyGaps_2 9 129 rfl)
theorem dX7_copyGaps_42 : decode cX7_copyGaps 42 = .ok (.lastore, 1) := @dq_o80 cX7_copyGaps 42 (qX7_copyGaps_2 10 80 rfl)
theorem dX7_copyGaps_43 : decode cX7_copyGaps 43 = .ok (.iinc 4 1, 3) := @dq_o132 cX7_copyGaps 43 4 1 (qX7_copyGaps_2 11 132 rfl) (qX7_copyGaps_2 12 4 rfl) (qX7_copyGaps_2 13 1 rfl)
theorem dX7_copyGaps_46 : decode cX7_copyGaps 46 = .ok (.goto (-38), 3) := @dq_o167 cX7_copyGaps 46 255 218 (qX7_copyGaps_2 14 167 rfl) (qX7_copyGaps_2 15 255 rfl) (qX7_copyGaps_3 0 218 rfl)
theorem dX7_copyGaps_49 : decode cX7_copyGaps 49 = .ok (.return_, 1) := @dq_o177 cX7_copyGaps 49 (qX7_copyGaps_3 1 177 rfl)
abbrev qaX8_init_0 : List Nat := [42, 183, 0, 3, 42, 187, 0, 9, 89, 183, 0, 11, 181, 0, 12, 42]
abbrev qaX8_init_1 : List Nat := [16, 10, 16, 6, 197, 0, 18, 2, 181, 0, 20, 42, 16, 8, 188, 10]
abbrev qaX8_init_2 : List Nat := [181, 0, 23, 177]
def qtX8_init_3 : List Nat := []
def qtX8_init_2 : List Nat := qaX8_init_2 ++ qtX8_init_3
def qtX8_init_1 : List Nat := qaX8_init_1 ++ qtX8_init_2
def qtX8_init_0 : List Nat := qaX8_init_0 ++ qtX8_init_1
theorem qeX8_init : cX8_init.data.toList.map UInt8.toNat = qtX8_init_0 := by decide +kernel
theorem qsX8_init_0 : ∀ i, dqNth qtX8_init_0 (0 + i) = dqNth qtX8_init_0 i := fun i => by rw [Nat.zero_add]
theorem qsX8_init_1 : ∀ i, dqNth qtX8_init_0 (16 + i) = dqNth qtX8_init_1 i := dq_step qsX8_init_0 rfl rfl
theorem qsX8_init_2 : ∀ i, dqNth qtX8_init_0 (32 + i) = dqNth qtX8_init_2 i := dq_step qsX8_init_1 rfl rfl
theorem qX8_init_0 (i b : Nat) (h : dqNth qaX8_init_0 i = some b) : DqBy cX8_init (0 + i) b := dqBy_of qeX8_init ((qsX8_init_0 i).trans (dq_in h))
theorem qX8_init_1 (i b : Nat) (h : dqNth qaX8_init_1 i = some b) : DqBy cX8_init (16 + i) b := dqBy_of qeX8_init ((qsX8_init_1 i).trans (dq_in h))
theorem qX8_init_2 (i b : Nat) (h : dqNth qaX8_init_2 i = some b) : DqBy cX8_init (32 + i) b := dqBy_of qeX8_init ((qsX8_init_2 i).trans (dq_in h))
theorem dX8_init_0 : decode cX8_init 0 = .ok (.aload_n 0, 1) := @dq_o42 cX8_init 0 (qX8_init_0 0 42 rfl)
theorem dX8_init_1 : decode cX8_init 1 = .ok (.invokespecial 3, 3) := @dq_o183 cX8_init 1 0 3 (qX8_init_0 1 183 rfl) (qX8_init_0 2 0 rfl) (qX8_init_0 3 3 rfl)
theorem dX8_init_4 : decode cX8_init 4 = .ok (.aload_n 0, 1) := @dq_o42 cX8_init 4 (qX8_init_0 4 42 rfl)
theorem dX8_init_5 : decode cX8_init 5 = .ok (.new 9, 3) := @dq_o187 cX8_init 5 0 9 (qX8_init_0 5 187 rfl) (qX8_init_0 6 0 rfl) (qX8_init_0 7 9 rfl)
theorem dX8_init_8 : decode cX8_init 8 = .ok (.dup, 1) := @dq_o89 cX8_init 8 (qX8_init_0 8 89 rfl)
theorem dX8_init_9 : decode cX8_init 9 = .ok (.invokespecial 11, 3) := @dq_o183 cX8_init 9 0 11 (qX8_init_0 9 183 rfl) (qX8_init_0 10 0 rfl) (qX8_init_0 11 11 rfl)
theorem dX8_init_12 : decode cX8_init 12 = .ok (.putfield 12, 3) := @dq_o181 cX8_init 12 0 12 (qX8_init_0 12 181 rfl) (qX8_init_0 13 0 rfl) (qX8_init_0 14 12 rfl)
theorem dX8_init_15 : decode cX8_init 15 = .ok (.aload_n 0, 1) := @dq_o42 cX8_init 15 (qX8_init_0 15 42 rfl)
theorem dX8_init_16 : decode cX8_init 16 = .ok (.bipush 10, 2) := @dq_o16 cX8_init 16 10 (qX8_init_1 0 16 rfl) (qX8_init_1 1 10 rfl)
theorem dX8_init_18 : decode cX8_init 18 = .ok (.bipush 6, 2) := @dq_o16 cX8_init 18 6 (qX8_init_1 2 16 rfl) (qX8_init_1 3 6 rfl)
theorem dX8_init_20 : decode cX8_init 20 = .ok (.multianewarray 18 2, 4) := by decide +kernel
theorem dX8_init_24 : decode cX8_init 24 = .ok (.putfield 20, 3) := @dq_o181 cX8_init 24 0 20 (qX8_init_1 8 181 rfl) (qX8_init_1 9 0 rfl) (qX8_init_1 10 20 rfl)
theorem dX8_init_27 : decode cX8_init 27 = .ok (.aload_n 0, 1) := @dq_o42 cX8_init 27 (qX8_init_1 11 42 rfl)
theorem dX8_init_28 : decode cX8_init 28 = .ok (.bipush 8, 2) := @dq_o16 cX8_init 28 8 (qX8_init_1 12 16 rfl) (qX8_init_1 13 8 rfl)
theorem dX8_init_30 : decode cX8_init 30 = .ok (.newarray .int, 2) := by decide +kernel
theorem dX8_init_32 : decode cX8_init 32 = .ok (.putfield 23, 3) := @dq_o181 cX8_init 32 0 23 (qX8_init_2 0 181 rfl) (qX8_init_2 1 0 rfl) (qX8_init_2 2 23 rfl)
theorem dX8_init_35 : decode cX8_init 35 = .ok (.return_, 1) := @dq_o177 cX8_init 35 (qX8_init_2 3 177 rfl)
abbrev qaX8_clearRegisters_0 : List Nat := [3, 60, 27, 16, 10, 162, 0, 19, 42, 180, 0, 20, 27, 50, 9, 184]
abbrev qaX8_clearRegisters_1 : List Nat := [0, 27, 132, 1, 1, 167, 255, 237, 177]
def qtX8_clearRegisters_2 : List Nat := []
def qtX8_clearRegisters_1 : List Nat := qaX8_clearRegisters_1 ++ qtX8_clearRegisters_2
def qtX8_clearRegisters_0 : List Nat := qaX8_clearRegisters_0 ++ qtX8_clearRegisters_1
theorem qeX8_clearRegisters : cX8_clearRegisters.data.toList.map UInt8.toNat = qtX8_clearRegisters_0 := by decide +kernel
theorem qsX8_clearRegisters_0 : ∀ i, dqNth qtX8_clearRegisters_0 (0 + i) = dqNth qtX8_clearRegisters_0 i := fun i => by rw [Nat.zero_add]
theorem qsX8_clearRegisters_1 : ∀ i, dqNth qtX8_clearRegisters_0 (16 + i) = dqNth qtX8_clearRegisters_1 i := dq_step qsX8_clearRegisters_0 rfl rfl
theorem qX8_clearRegisters_0 (i b : Nat) (h : dqNth qaX8_clearRegisters_0 i = some b) : DqBy cX8_clearRegisters (0 + i) b := dqBy_of qeX8_clearRegisters ((qsX8_clearRegisters_0 i).trans (dq_in h))
theorem qX8_clearRegisters_1 (i b : Nat) (h : dqNth qaX8_clearRegisters_1 i = some b) : DqBy cX8_clearRegisters (16 + i) b := dqBy_of qeX8_clearRegisters ((qsX8_clearRegisters_1 i).trans (dq_in h))
theorem dX8_clearRegisters_0 : decode cX8_clearRegisters 0 = .ok (.iconst 0, 1) := @dq_o3 cX8_clearRegisters 0 (qX8_clearRegisters_0 0 3 rfl)
theorem dX8_clearRegisters_1 : decode cX8_clearRegisters 1 = .ok (.istore_n 1, 1) := @dq_o60 cX8_clearRegisters 1 (qX8_clearRegisters_0 1 60 rfl)
theorem dX8_clearRegisters_2 : decode cX8_clearRegisters 2 = .ok (.iload_n 1, 1) := @dq_o27 cX8_clearRegisters 2 (qX8_clearRegisters_0 2 27 rfl)
theorem dX8_clearRegisters_3 : decode cX8_clearRegisters 3 = .ok (.bipush 10, 2) := @dq_o16 cX8_clearRegisters 3 10 (qX8_clearRegisters_0 3 16 rfl) (qX8_clearRegisters_0 4 10 rfl)
theorem dX8_clearRegisters_5 : decode cX8_clearRegisters 5 = .ok (.if_icmp .ge 19, 3) := @dq_o162 cX8_clearRegisters 5 0 19 (qX8_clearRegisters_0 5 162 rfl) (qX8_clearRegisters_0 6 0 rfl) (qX8_clearRegisters_0 7 19 rfl)
theorem dX8_clearRegisters_8 : decode cX8_clearRegisters 8 = .ok (.aload_n 0, 1) := @dq_o42 cX8_clearRegisters 8 (qX8_clearRegisters_0 8 42 rfl)
theorem dX8_clearRegisters_9 : decode cX8_clearRegisters 9 = .ok (.getfield 20, 3) := @dq_o180 cX8_clearRegisters 9 0 20 (qX8_clearRegisters_0 9 180 rfl) (qX8_clearRegisters_0 10 0 rfl) (qX8_clearRegisters_0 11 20 rfl)
theorem dX8_clearRegisters_12 : decode cX8_clearRegisters 12 = .ok (.iload_n 1, 1) := @dq_o27 cX8_clearRegisters 12 (qX8_clearRegisters_0 12 27 rfl)
theorem dX8_clearRegisters_13 : decode cX8_clearRegisters 13 = .ok (.aaload, 1) := @dq_o50 cX8_clearRegisters 13 (qX8_clearRegisters_0 13 50 rfl)
theorem dX8_clearRegisters_14 : decode cX8_clearRegisters 14 = .ok (.lconst 0, 1) := @dq_o9 cX8_clearRegisters 14 (qX8_clearRegisters_0 14 9 rfl)
theorem dX8_clearRegisters_15 : decode cX8_clearRegisters 15 = .ok (.invokestatic 27, 3) := @dq_o184 cX8_clearRegisters 15 0 27 (qX8_clearRegisters_0 15 184 rfl) (qX8_clearRegisters_1 0 0 rfl) (qX8_clearRegisters_1 1 27 rfl)
theorem dX8_clearRegisters_18 : decode cX8_clearRegisters 18 = .ok (.iinc 1 1, 3) := @dq_o132 cX8_clearRegisters 18 1 1 (qX8_clearRegisters_1 2 132 rfl) (qX8_clearRegisters_1 3 1 rfl) (qX8_clearRegisters_1 4 1 rfl)
theorem dX8_clearRegisters_21 : decode cX8_clearRegisters 21 = .ok (.goto (-19), 3) := @dq_o167 cX8_clearRegisters 21 255 237 (qX8_clearRegisters_1 5 167 rfl) (qX8_clearRegisters_1 6 255 rfl) (qX8_clearRegisters_1 7 237 rfl)
theorem dX8_clearRegisters_24 : decode cX8_clearRegisters 24 = .ok (.return_, 1) := @dq_o177 cX8_clearRegisters 24 (qX8_clearRegisters_1 8 177 rfl)
abbrev qaX8_takeActed_0 : List Nat := [42, 180, 0, 12, 43, 180, 0, 12, 182, 0, 33, 3, 61, 28, 16, 10]
abbrev qaX8_takeActed_1 : List Nat := [162, 0, 24, 43, 180, 0, 20, 28, 50, 42, 180, 0, 20, 28, 50, 184]
abbrev qaX8_takeActed_2 : List Nat := [0, 37, 132, 2, 1, 167, 255, 232, 177]
def qtX8_takeActed_3 : List Nat := []
def qtX8_takeActed_2 : List Nat := qaX8_takeActed_2 ++ qtX8_takeActed_3
def qtX8_takeActed_1 : List Nat := qaX8_takeActed_1 ++ qtX8_takeActed_2
def qtX8_takeActed_0 : List Nat := qaX8_takeActed_0 ++ qtX8_takeActed_1
theorem qeX8_takeActed : cX8_takeActed.data.toList.map UInt8.toNat = qtX8_takeActed_0 := by decide +kernel
theorem qsX8_takeActed_0 : ∀ i, dqNth qtX8_takeActed_0 (0 + i) = dqNth qtX8_takeActed_0 i := fun i => by rw [Nat.zero_add]
theorem qsX8_takeActed_1 : ∀ i, dqNth qtX8_takeActed_0 (16 + i) = dqNth qtX8_takeActed_1 i := dq_step qsX8_takeActed_0 rfl rfl
theorem qsX8_takeActed_2 : ∀ i, dqNth qtX8_takeActed_0 (32 + i) = dqNth qtX8_takeActed_2 i := dq_step qsX8_takeActed_1 rfl rfl
theorem qX8_takeActed_0 (i b : Nat) (h : dqNth qaX8_takeActed_0 i = some b) : DqBy cX8_takeActed (0 + i) b := dqBy_of qeX8_takeActed ((qsX8_takeActed_0 i).trans (dq_in h))
theorem qX8_takeActed_1 (i b : Nat) (h : dqNth qaX8_takeActed_1 i = some b) : DqBy cX8_takeActed (16 + i) b := dqBy_of qeX8_takeActed ((qsX8_takeActed_1 i).trans (dq_in h))
theorem qX8_takeActed_2 (i b : Nat) (h : dqNth qaX8_takeActed_2 i = some b) : DqBy cX8_takeActed (32 + i) b := dqBy_of qeX8_takeActed ((qsX8_takeActed_2 i).trans (dq_in h))
theorem dX8_takeActed_0 : decode cX8_takeActed 0 = .ok (.aload_n 0, 1) := @dq_o42 cX8_takeActed 0 (qX8_takeActed_0 0 42 rfl)
theorem dX8_takeActed_1 : decode cX8_takeActed 1 = .ok (.getfield 12, 3) := @dq_o180 cX8_takeActed 1 0 12 (qX8_takeActed_0 1 180 rfl) (qX8_takeActed_0 2 0 rfl) (qX8_takeActed_0 3 12 rfl)
theorem dX8_takeActed_4 : decode cX8_takeActed 4 = .ok (.aload_n 1, 1) := @dq_o43 cX8_takeActed 4 (qX8_takeActed_0 4 43 rfl)
theorem dX8_takeActed_5 : decode cX8_takeActed 5 = .ok (.getfield 12, 3) := @dq_o180 cX8_takeActed 5 0 12 (qX8_takeActed_0 5 180 rfl) (qX8_takeActed_0 6 0 rfl) (qX8_takeActed_0 7 12 rfl)
theorem dX8_takeActed_8 : decode cX8_takeActed 8 = .ok (.invokevirtual 33, 3) := @dq_o182 cX8_takeActed 8 0 33 (qX8_takeActed_0 8 182 rfl) (qX8_takeActed_0 9 0 rfl) (qX8_takeActed_0 10 33 rfl)
theorem dX8_takeActed_11 : decode cX8_takeActed 11 = .ok (.iconst 0, 1) := @dq_o3 cX8_takeActed 11 (qX8_takeActed_0 11 3 rfl)
theorem dX8_takeActed_12 : decode cX8_takeActed 12 = .ok (.istore_n 2, 1) := @dq_o61 cX8_takeActed 12 (qX8_takeActed_0 12 61 rfl)
theorem dX8_takeActed_13 : decode cX8_takeActed 13 = .ok (.iload_n 2, 1) := @dq_o28 cX8_takeActed 13 (qX8_takeActed_0 13 28 rfl)
theorem dX8_takeActed_14 : decode cX8_takeActed 14 = .ok (.bipush 10, 2) := @dq_o16 cX8_takeActed 14 10 (qX8_takeActed_0 14 16 rfl) (qX8_takeActed_0 15 10 rfl)
theorem dX8_takeActed_16 : decode cX8_takeActed 16 = .ok (.if_icmp .ge 24, 3) := @dq_o162 cX8_takeActed 16 0 24 (qX8_takeActed_1 0 162 rfl) (qX8_takeActed_1 1 0 rfl) (qX8_takeActed_1 2 24 rfl)
theorem dX8_takeActed_19 : decode cX8_takeActed 19 = .ok (.aload_n 1, 1) := @dq_o43 cX8_takeActed 19 (qX8_takeActed_1 3 43 rfl)
theorem dX8_takeActed_20 : decode cX8_takeActed 20 = .ok (.getfield 20, 3) := @dq_o180 cX8_takeActed 20 0 20 (qX8_takeActed_1 4 180 rfl) (qX8_takeActed_1 5 0 rfl) (qX8_takeActed_1 6 20 rfl)
theorem dX8_takeActed_23 : decode cX8_takeActed 23 = .ok (.iload_n 2, 1) := @dq_o28 cX8_takeActed 23 (qX8_takeActed_1 7 28 rfl)
theorem dX8_takeActed_24 : decode cX8_takeActed 24 = .ok (.aaload, 1) := @dq_o50 cX8_takeActed 24 (qX8_takeActed_1 8 50 rfl)
theorem dX8_takeActed_25 : decode cX8_takeActed 25 = .ok (.aload_n 0, 1) := @dq_o42 cX8_takeActed 25 (qX8_takeActed_1 9 42 rfl)
theorem dX8_takeActed_26 : decode cX8_takeActed 26 = .ok (.getfield 20, 3) := @dq_o180 cX8_takeActed 26 0 20 (qX8_takeActed_1 10 180 rfl) (qX8_takeActed_1 11 0 rfl) (qX8_takeActed_1 12 20 rfl)
theorem dX8_takeActed_29 : decode cX8_takeActed 29 = .ok (.iload_n 2, 1) := @dq_o28 cX8_takeActed 29 (qX8_takeActed_1 13 28 rfl)
theorem dX8_takeActed_30 : decode cX8_takeActed 30 = .ok (.aaload, 1) := @dq_o50 cX8_takeActed 30 (qX8_takeActed_1 14 50 rfl)
theorem dX8_takeActed_31 : decode cX8_takeActed 31 = .ok (.invokestatic 37, 3) := @dq_o184 cX8_takeActed 31 0 37 (qX8_takeActed_1 15 184 rfl) (qX8_takeActed_2 0 0 rfl) (qX8_takeActed_2 1 37 rfl)
theorem dX8_takeActed_34 : decode cX8_takeActed 34 = .ok (.iinc 2 1, 3) := @dq_o132 cX8_takeActed 34 2 1 (qX8_takeActed_2 2 132 rfl) (qX8_takeActed_2 3 2 rfl) (qX8_takeActed_2 4 1 rfl)
theorem dX8_takeActed_37 : decode cX8_takeActed 37 = .ok (.goto (-24), 3) := @dq_o167 cX8_takeActed 37 255 232 (qX8_takeActed_2 5 167 rfl) (qX8_takeActed_2 6 255 rfl) (qX8_takeActed_2 7 232 rfl)
theorem dX8_takeActed_40 : decode cX8_takeActed 40 = .ok (.return_, 1) := @dq_o177 cX8_takeActed 40 (qX8_takeActed_2 8 177 rfl)
abbrev qaX8_takeAll_0 : List Nat := [42, 43, 182, 0, 43, 43, 180, 0, 23, 3, 42, 180, 0, 23, 3, 42]
abbrev qaX8_takeAll_1 : List Nat := [180, 0, 23, 190, 184, 0, 47, 177]
def qtX8_takeAll_2 : List Nat := []
def qtX8_takeAll_1 : List Nat := qaX8_takeAll_1 ++ qtX8_takeAll_2
def qtX8_takeAll_0 : List Nat := qaX8_takeAll_0 ++ qtX8_takeAll_1
theorem qeX8_takeAll : cX8_takeAll.data.toList.map UInt8.toNat = qtX8_takeAll_0 := by decide +kernel
theorem qsX8_takeAll_0 : ∀ i, dqNth qtX8_takeAll_0 (0 + i) = dqNth qtX8_takeAll_0 i := fun i => by rw [Nat.zero_add]
theorem qsX8_takeAll_1 : ∀ i, dqNth qtX8_takeAll_0 (16 + i) = dqNth qtX8_takeAll_1 i := dq_step qsX8_takeAll_0 rfl rfl
theorem qX8_takeAll_0 (i b : Nat) (h : dqNth qaX8_takeAll_0 i = some b) : DqBy cX8_takeAll (0 + i) b := dqBy_of qeX8_takeAll ((qsX8_takeAll_0 i).trans (dq_in h))
theorem qX8_takeAll_1 (i b : Nat) (h : dqNth qaX8_takeAll_1 i = some b) : DqBy cX8_takeAll (16 + i) b := dqBy_of qeX8_takeAll ((qsX8_takeAll_1 i).trans (dq_in h))
theorem dX8_takeAll_0 : decode cX8_takeAll 0 = .ok (.aload_n 0, 1) := @dq_o42 cX8_takeAll 0 (qX8_takeAll_0 0 42 rfl)
theorem dX8_takeAll_1 : decode cX8_takeAll 1 = .ok (.aload_n 1, 1) := @dq_o43 cX8_takeAll 1 (qX8_takeAll_0 1 43 rfl)
theorem dX8_takeAll_2 : decode cX8_takeAll 2 = .ok (.invokevirtual 43, 3) := @dq_o182 cX8_takeAll 2 0 43 (qX8_takeAll_0 2 182 rfl) (qX8_takeAll_0 3 0 rfl) (qX8_takeAll_0 4 43 rfl)
theorem dX8_takeAll_5 : decode cX8_takeAll 5 = .ok (.aload_n 1, 1) := @dq_o43 cX8_takeAll 5 (qX8_takeAll_0 5 43 rfl)
theorem dX8_takeAll_6 : decode cX8_takeAll 6 = .ok (.getfield 23, 3) := @dq_o180 cX8_takeAll 6 0 23 (qX8_takeAll_0 6 180 rfl) (qX8_takeAll_0 7 0 rfl) (qX8_takeAll_0 8 23 rfl)
theorem dX8_takeAll_9 : decode cX8_takeAll 9 = .ok (.iconst 0, 1) := @dq_o3 cX8_takeAll 9 (qX8_takeAll_0 9 3 rfl)
theorem dX8_takeAll_10 : decode cX8_takeAll 10 = .ok (.aload_n 0, 1) := @dq_o42 cX8_takeAll 10 (qX8_takeAll_0 10 42 rfl)
theorem dX8_takeAll_11 : decode cX8_takeAll 11 = .ok (.getfield 23, 3) := @dq_o180 cX8_takeAll 11 0 23 (qX8_takeAll_0 11 180 rfl) (qX8_takeAll_0 12 0 rfl) (qX8_takeAll_0 13 23 rfl)
theorem dX8_takeAll_14 : decode cX8_takeAll 14 = .ok (.iconst 0, 1) := @dq_o3 cX8_takeAll 14 (qX8_takeAll_0 14 3 rfl)
theorem dX8_takeAll_15 : decode cX8_takeAll 15 = .ok (.aload_n 0, 1) := @dq_o42 cX8_takeAll 15 (qX8_takeAll_0 15 42 rfl)
theorem dX8_takeAll_16 : decode cX8_takeAll 16 = .ok (.getfield 23, 3) := @dq_o180 cX8_takeAll 16 0 23 (qX8_takeAll_1 0 180 rfl) (qX8_takeAll_1 1 0 rfl) (qX8_takeAll_1 2 23 rfl)
theorem dX8_takeAll_19 : decode cX8_takeAll 19 = .ok (.arraylength, 1) := @dq_o190 cX8_takeAll 19 (qX8_takeAll_1 3 190 rfl)
theorem dX8_takeAll_20 : decode cX8_takeAll 20 = .ok (.invokestatic 47, 3) := @dq_o184 cX8_takeAll 20 0 47 (qX8_takeAll_1 4 184 rfl) (qX8_takeAll_1 5 0 rfl) (qX8_takeAll_1 6 47 rfl)
theorem dX8_takeAll_23 : decode cX8_takeAll 23 = .ok (.return_, 1) := @dq_o177 cX8_takeAll 23 (qX8_takeAll_1 7 177 rfl)
abbrev qaX9_init_0 : List Nat := [42, 183, 0, 3, 42, 3, 181, 0, 9, 42, 17, 1, 199, 188, 10, 181]
abbrev qaX9_init_1 : List Nat := [0, 15, 42, 17, 1, 199, 188, 11, 181, 0, 19, 42, 17, 1, 199, 188]
abbrev qaX9_init_2 : List Nat := [10, 181, 0, 23, 177]
def qtX9_init_3 : List Nat := []
def qtX9_init_2 : List Nat := qaX9_init_2 ++ qtX9_init_3
def qtX9_init_1 : List Nat := qaX9_init_1 ++ qtX9_init_2
def qtX9_init_0 : List Nat := qaX9_init_0 ++ qtX9_init_1
theorem qeX9_init : cX9_init.data.toList.map UInt8.toNat = qtX9_init_0 := by decide +kernel
theorem qsX9_init_0 : ∀ i, dqNth qtX9_init_0 (0 + i) = dqNth qtX9_init_0 i := fun i => by rw [Nat.zero_add]
theorem qsX9_init_1 : ∀ i, dqNth qtX9_init_0 (16 + i) = dqNth qtX9_init_1 i := dq_step qsX9_init_0 rfl rfl
theorem qsX9_init_2 : ∀ i, dqNth qtX9_init_0 (32 + i) = dqNth qtX9_init_2 i := dq_step qsX9_init_1 rfl rfl
theorem qX9_init_0 (i b : Nat) (h : dqNth qaX9_init_0 i = some b) : DqBy cX9_init (0 + i) b := dqBy_of qeX9_init ((qsX9_init_0 i).trans (dq_in h))
theorem qX9_init_1 (i b : Nat) (h : dqNth qaX9_init_1 i = some b) : DqBy cX9_init (16 + i) b := dqBy_of qeX9_init ((qsX9_init_1 i).trans (dq_in h))
theorem qX9_init_2 (i b : Nat) (h : dqNth qaX9_init_2 i = some b) : DqBy cX9_init (32 + i) b := dqBy_of qeX9_init ((qsX9_init_2 i).trans (dq_in h))
theorem dX9_init_0 : decode cX9_init 0 = .ok (.aload_n 0, 1) := @dq_o42 cX9_init 0 (qX9_init_0 0 42 rfl)
theorem dX9_init_1 : decode cX9_init 1 = .ok (.invokespecial 3, 3) := @dq_o183 cX9_init 1 0 3 (qX9_init_0 1 183 rfl) (qX9_init_0 2 0 rfl) (qX9_init_0 3 3 rfl)
theorem dX9_init_4 : decode cX9_init 4 = .ok (.aload_n 0, 1) := @dq_o42 cX9_init 4 (qX9_init_0 4 42 rfl)
theorem dX9_init_5 : decode cX9_init 5 = .ok (.iconst 0, 1) := @dq_o3 cX9_init 5 (qX9_init_0 5 3 rfl)
theorem dX9_init_6 : decode cX9_init 6 = .ok (.putfield 9, 3) := @dq_o181 cX9_init 6 0 9 (qX9_init_0 6 181 rfl) (qX9_init_0 7 0 rfl) (qX9_init_0 8 9 rfl)
theorem dX9_init_9 : decode cX9_init 9 = .ok (.aload_n 0, 1) := @dq_o42 cX9_init 9 (qX9_init_0 9 42 rfl)
theorem dX9_init_10 : decode cX9_init 10 = .ok (.sipush 455, 3) := @dq_o17 cX9_init 10 1 199 (qX9_init_0 10 17 rfl) (qX9_init_0 11 1 rfl) (qX9_init_0 12 199 rfl)
theorem dX9_init_13 : decode cX9_init 13 = .ok (.newarray .int, 2) := by decide +kernel
theorem dX9_init_15 : decode cX9_init 15 = .ok (.putfield 15, 3) := @dq_o181 cX9_init 15 0 15 (qX9_init_0 15 181 rfl) (qX9_init_1 0 0 rfl) (qX9_init_1 1 15 rfl)
theorem dX9_init_18 : decode cX9_init 18 = .ok (.aload_n 0, 1) := @dq_o42 cX9_init 18 (qX9_init_1 2 42 rfl)
theorem dX9_init_19 : decode cX9_init 19 = .ok (.sipush 455, 3) := @dq_o17 cX9_init 19 1 199 (qX9_init_1 3 17 rfl) (qX9_init_1 4 1 rfl) (qX9_init_1 5 199 rfl)
theorem dX9_init_22 : decode cX9_init 22 = .ok (.newarray .long, 2) := by decide +kernel
theorem dX9_init_24 : decode cX9_init 24 = .ok (.putfield 19, 3) := @dq_o181 cX9_init 24 0 19 (qX9_init_1 8 181 rfl) (qX9_init_1 9 0 rfl) (qX9_init_1 10 19 rfl)
theorem dX9_init_27 : decode cX9_init 27 = .ok (.aload_n 0, 1) := @dq_o42 cX9_init 27 (qX9_init_1 11 42 rfl)
theorem dX9_init_28 : decode cX9_init 28 = .ok (.sipush 455, 3) := @dq_o17 cX9_init 28 1 199 (qX9_init_1 12 17 rfl) (qX9_init_1 13 1 rfl) (qX9_init_1 14 199 rfl)
theorem dX9_init_31 : decode cX9_init 31 = .ok (.newarray .int, 2) := by decide +kernel
theorem dX9_init_33 : decode cX9_init 33 = .ok (.putfield 23, 3) := @dq_o181 cX9_init 33 0 23 (qX9_init_2 1 181 rfl) (qX9_init_2 2 0 rfl) (qX9_init_2 3 23 rfl)
theorem dX9_init_36 : decode cX9_init 36 = .ok (.return_, 1) := @dq_o177 cX9_init 36 (qX9_init_2 4 177 rfl)
abbrev qaX9_append_0 : List Nat := [42, 180, 0, 9, 17, 1, 199, 162, 0, 46, 42, 180, 0, 15, 42, 180]
abbrev qaX9_append_1 : List Nat := [0, 9, 27, 79, 42, 180, 0, 19, 42, 180, 0, 9, 32, 80, 42, 180]
abbrev qaX9_append_2 : List Nat := [0, 23, 42, 180, 0, 9, 27, 184, 0, 26, 79, 42, 89, 180, 0, 9]
abbrev qaX9_append_3 : List Nat := [4, 96, 181, 0, 9, 177]
def qtX9_append_4 : List Nat := []
def qtX9_append_3 : List Nat := qaX9_append_3 ++ qtX9_append_4
def qtX9_append_2 : List Nat := qaX9_append_2 ++ qtX9_append_3
def qtX9_append_1 : List Nat := qaX9_append_1 ++ qtX9_append_2
def qtX9_append_0 : List Nat := qaX9_append_0 ++ qtX9_append_1
theorem qeX9_append : cX9_append.data.toList.map UInt8.toNat = qtX9_append_0 := by decide +kernel
theorem qsX9_append_0 : ∀ i, dqNth qtX9_append_0 (0 + i) = dqNth qtX9_append_0 i := fun i => by rw [Nat.zero_add]
theorem qsX9_append_1 : ∀ i, dqNth qtX9_append_0 (16 + i) = dqNth qtX9_append_1 i := dq_step qsX9_append_0 rfl rfl
theorem qsX9_append_2 : ∀ i, dqNth qtX9_append_0 (32 + i) = dqNth qtX9_append_2 i := dq_step qsX9_append_1 rfl rfl
theorem qsX9_append_3 : ∀ i, dqNth qtX9_append_0 (48 + i) = dqNth qtX9_append_3 i := dq_step qsX9_append_2 rfl rfl
theorem qX9_append_0 (i b : Nat) (h : dqNth qaX9_append_0 i = some b) : DqBy cX9_append (0 + i) b := dqBy_of qeX9_append ((qsX9_append_0 i).trans (dq_in h))
theorem qX9_append_1 (i b : Nat) (h : dqNth qaX9_append_1 i = some b) : DqBy cX9_append (16 + i) b := dqBy_of qeX9_append ((qsX9_append_1 i).trans (dq_in h))
theorem qX9_append_2 (i b : Nat) (h : dqNth qaX9_append_2 i = some b) : DqBy cX9_append (32 + i) b := dqBy_of qeX9_append ((qsX9_append_2 i).trans (dq_in h))
theorem qX9_append_3 (i b : Nat) (h : dqNth qaX9_append_3 i = some b) : DqBy cX9_append (48 + i) b := dqBy_of qeX9_append ((qsX9_append_3 i).trans (dq_in h))
theorem dX9_append_0 : decode cX9_append 0 = .ok (.aload_n 0, 1) := @dq_o42 cX9_append 0 (qX9_append_0 0 42 rfl)
theorem dX9_append_1 : decode cX9_append 1 = .ok (.getfield 9, 3) := @dq_o180 cX9_append 1 0 9 (qX9_append_0 1 180 rfl) (qX9_append_0 2 0 rfl) (qX9_append_0 3 9 rfl)
theorem dX9_append_4 : decode cX9_append 4 = .ok (.sipush 455, 3) := @dq_o17 cX9_append 4 1 199 (qX9_append_0 4 17 rfl) (qX9_append_0 5 1 rfl) (qX9_append_0 6 199 rfl)
theorem dX9_append_7 : decode cX9_append 7 = .ok (.if_icmp .ge 46, 3) := @dq_o162 cX9_append 7 0 46 (qX9_append_0 7 162 rfl) (qX9_append_0 8 0 rfl) (qX9_append_0 9 46 rfl)
theorem dX9_append_10 : decode cX9_append 10 = .ok (.aload_n 0, 1) := @dq_o42 cX9_append 10 (qX9_append_0 10 42 rfl)
theorem dX9_append_11 : decode cX9_append 11 = .ok (.getfield 15, 3) := @dq_o180 cX9_append 11 0 15 (qX9_append_0 11 180 rfl) (qX9_append_0 12 0 rfl) (qX9_append_0 13 15 rfl)
theorem dX9_append_14 : decode cX9_append 14 = .ok (.aload_n 0, 1) := @dq_o42 cX9_append 14 (qX9_append_0 14 42 rfl)
theorem dX9_append_15 : decode cX9_append 15 = .ok (.getfield 9, 3) := @dq_o180 cX9_append 15 0 9 (qX9_append_0 15 180 rfl) (qX9_append_1 0 0 rfl) (qX9_append_1 1 9 rfl)
theorem dX9_append_18 : decode cX9_append 18 = .ok (.iload_n 1, 1) := @dq_o27 cX9_append 18 (qX9_append_1 2 27 rfl)
theorem dX9_append_19 : decode cX9_append 19 = .ok (.iastore, 1) := @dq_o79 cX9_append 19 (qX9_append_1 3 79 rfl)
theorem dX9_append_20 : decode cX9_append 20 = .ok (.aload_n 0, 1) := @dq_o42 cX9_append 20 (qX9_append_1 4 42 rfl)
theorem dX9_append_21 : decode cX9_append 21 = .ok (.getfield 19, 3) := @dq_o180 cX9_append 21 0 19 (qX9_append_1 5 180 rfl) (qX9_append_1 6 0 rfl) (qX9_append_1 7 19 rfl)
theorem dX9_append_24 : decode cX9_append 24 = .ok (.aload_n 0, 1) := @dq_o42 cX9_append 24 (qX9_append_1 8 42 rfl)
theorem dX9_append_25 : decode cX9_append 25 = .ok (.getfield 9, 3) := @dq_o180 cX9_append 25 0 9 (qX9_append_1 9 180 rfl) (qX9_append_1 10 0 rfl) (qX9_append_1 11 9 rfl)
theorem dX9_append_28 : decode cX9_append 28 = .ok (.lload_n 2, 1) := @dq_o32 cX9_append 28 (qX9_append_1 12 32 rfl)
theorem dX9_append_29 : decode cX9_append 29 = .ok (.lastore, 1) := @dq_o80 cX9_append 29 (qX9_append_1 13 80 rfl)
theorem dX9_append_30 : decode cX9_append 30 = .ok (.aload_n 0, 1) := @dq_o42 cX9_append 30 (qX9_append_1 14 42 rfl)
theorem dX9_append_31 : decode cX9_append 31 = .ok (.getfield 23, 3) := @dq_o180 cX9_append 31 0 23 (qX9_append_1 15 180 rfl) (qX9_append_2 0 0 rfl) (qX9_append_2 1 23 rfl)
theorem dX9_append_34 : decode cX9_append 34 = .ok (.aload_n 0, 1) := @dq_o42 cX9_append 34 (qX9_append_2 2 42 rfl)
theorem dX9_append_35 : decode cX9_append 35 = .ok (.getfield 9, 3) := @dq_o180 cX9_append 35 0 9 (qX9_append_2 3 180 rfl) (qX9_append_2 4 0 rfl) (qX9_append_2 5 9 rfl)
theorem dX9_append_38 : decode cX9_append 38 = .ok (.iload_n 1, 1) := @dq_o27 cX9_append 38 (qX9_append_2 6 27 rfl)
theorem dX9_append_39 : decode cX9_append 39 = .ok (.invokestatic 26, 3) := @dq_o184 cX9_append 39 0 26 (qX9_append_2 7 184 rfl) (qX9_append_2 8 0 rfl) (qX9_append_2 9 26 rfl)
theorem dX9_append_42 : decode cX9_append 42 = .ok (.iastore, 1) := @dq_o79 cX9_append 42 (qX9_append_2 10 79 rfl)
theorem dX9_append_43 : decode cX9_append 43 = .ok (.aload_n 0, 1) := @dq_o42 cX9_append 43 (qX9_append_2 11 42 rfl)
theorem dX9_append_44 : decode cX9_append 44 = .ok (.dup, 1) := @dq_o89 cX9_append 44 (qX9_append_2 12 89 rfl)
theorem dX9_append_45 : decode cX9_append 45 = .ok (.getfield 9, 3) := @dq_o180 cX9_append 45 0 9 (qX9_append_2 13 180 rfl) (qX9_append_2 14 0 rfl) (qX9_append_2 15 9 rfl)
theorem dX9_append_48 : decode cX9_append 48 = .ok (.iconst 1, 1) := @dq_o4 cX9_append 48 (qX9_append_3 0 4 rfl)
theorem dX9_append_49 : decode cX9_append 49 = .ok (.iadd, 1) := @dq_o96 cX9_append 49 (qX9_append_3 1 96 rfl)
theorem dX9_append_50 : decode cX9_append 50 = .ok (.putfield 9, 3) := @dq_o181 cX9_append 50 0 9 (qX9_append_3 2 181 rfl) (qX9_append_3 3 0 rfl) (qX9_append_3 4 9 rfl)
theorem dX9_append_53 : decode cX9_append 53 = .ok (.return_, 1) := @dq_o177 cX9_append 53 (qX9_append_3 5 177 rfl)
abbrev qaX9_merge_0 : List Nat := [32, 9, 148, 154, 0, 4, 177, 3, 54, 4, 21, 4, 42, 180, 0, 9]
abbrev qaX9_merge_1 : List Nat := [162, 0, 32, 42, 180, 0, 15, 21, 4, 46, 27, 160, 0, 15, 42, 180]
abbrev qaX9_merge_2 : List Nat := [0, 19, 21, 4, 92, 47, 32, 97, 80, 177, 132, 4, 1, 167, 255, 221]
abbrev qaX9_merge_3 : List Nat := [42, 27, 32, 182, 0, 30, 177]
def qtX9_merge_4 : List Nat := []
def qtX9_merge_3 : List Nat := qaX9_merge_3 ++ qtX9_merge_4
def qtX9_merge_2 : List Nat := qaX9_merge_2 ++ qtX9_merge_3
def qtX9_merge_1 : List Nat := qaX9_merge_1 ++ qtX9_merge_2
def qtX9_merge_0 : List Nat := qaX9_merge_0 ++ qtX9_merge_1
theorem qeX9_merge : cX9_merge.data.toList.map UInt8.toNat = qtX9_merge_0 := by decide +kernel
theorem qsX9_merge_0 : ∀ i, dqNth qtX9_merge_0 (0 + i) = dqNth qtX9_merge_0 i := fun i => by rw [Nat.zero_add]
theorem qsX9_merge_1 : ∀ i, dqNth qtX9_merge_0 (16 + i) = dqNth qtX9_merge_1 i := dq_step qsX9_merge_0 rfl rfl
theorem qsX9_merge_2 : ∀ i, dqNth qtX9_merge_0 (32 + i) = dqNth qtX9_merge_2 i := dq_step qsX9_merge_1 rfl rfl
theorem qsX9_merge_3 : ∀ i, dqNth qtX9_merge_0 (48 + i) = dqNth qtX9_merge_3 i := dq_step qsX9_merge_2 rfl rfl
theorem qX9_merge_0 (i b : Nat) (h : dqNth qaX9_merge_0 i = some b) : DqBy cX9_merge (0 + i) b := dqBy_of qeX9_merge ((qsX9_merge_0 i).trans (dq_in h))
theorem qX9_merge_1 (i b : Nat) (h : dqNth qaX9_merge_1 i = some b) : DqBy cX9_merge (16 + i) b := dqBy_of qeX9_merge ((qsX9_merge_1 i).trans (dq_in h))
theorem qX9_merge_2 (i b : Nat) (h : dqNth qaX9_merge_2 i = some b) : DqBy cX9_merge (32 + i) b := dqBy_of qeX9_merge ((qsX9_merge_2 i).trans (dq_in h))
theorem qX9_merge_3 (i b : Nat) (h : dqNth qaX9_merge_3 i = some b) : DqBy cX9_merge (48 + i) b := dqBy_of qeX9_merge ((qsX9_merge_3 i).trans (dq_in h))
theorem dX9_merge_0 : decode cX9_merge 0 = .ok (.lload_n 2, 1) := @dq_o32 cX9_merge 0 (qX9_merge_0 0 32 rfl)
theorem dX9_merge_1 : decode cX9_merge 1 = .ok (.lconst 0, 1) := @dq_o9 cX9_merge 1 (qX9_merge_0 1 9 rfl)
theorem dX9_merge_2 : decode cX9_merge 2 = .ok (.lcmp, 1) := @dq_o148 cX9_merge 2 (qX9_merge_0 2 148 rfl)
theorem dX9_merge_3 : decode cX9_merge 3 = .ok (.ifCond .ne 4, 3) := @dq_o154 cX9_merge 3 0 4 (qX9_merge_0 3 154 rfl) (qX9_merge_0 4 0 rfl) (qX9_merge_0 5 4 rfl)
theorem dX9_merge_6 : decode cX9_merge 6 = .ok (.return_, 1) := @dq_o177 cX9_merge 6 (qX9_merge_0 6 177 rfl)
theorem dX9_merge_7 : decode cX9_merge 7 = .ok (.iconst 0, 1) := @dq_o3 cX9_merge 7 (qX9_merge_0 7 3 rfl)
theorem dX9_merge_8 : decode cX9_merge 8 = .ok (.istore 4, 2) := @dq_o54 cX9_merge 8 4 (qX9_merge_0 8 54 rfl) (qX9_merge_0 9 4 rfl)
theorem dX9_merge_10 : decode cX9_merge 10 = .ok (.iload 4, 2) := @dq_o21 cX9_merge 10 4 (qX9_merge_0 10 21 rfl) (qX9_merge_0 11 4 rfl)
theorem dX9_merge_12 : decode cX9_merge 12 = .ok (.aload_n 0, 1) := @dq_o42 cX9_merge 12 (qX9_merge_0 12 42 rfl)
theorem dX9_merge_13 : decode cX9_merge 13 = .ok (.getfield 9, 3) := @dq_o180 cX9_merge 13 0 9 (qX9_merge_0 13 180 rfl) (qX9_merge_0 14 0 rfl) (qX9_merge_0 15 9 rfl)
theorem dX9_merge_16 : decode cX9_merge 16 = .ok (.if_icmp .ge 32, 3) := @dq_o162 cX9_merge 16 0 32 (qX9_merge_1 0 162 rfl) (qX9_merge_1 1 0 rfl) (qX9_merge_1 2 32 rfl)
theorem dX9_merge_19 : decode cX9_merge 19 = .ok (.aload_n 0, 1) := @dq_o42 cX9_merge 19 (qX9_merge_1 3 42 rfl)
theorem dX9_merge_20 : decode cX9_merge 20 = .ok (.getfield 15, 3) := @dq_o180 cX9_merge 20 0 15 (qX9_merge_1 4 180 rfl) (qX9_merge_1 5 0 rfl) (qX9_merge_1 6 15 rfl)
theorem dX9_merge_23 : decode cX9_merge 23 = .ok (.iload 4, 2) := @dq_o21 cX9_merge 23 4 (qX9_merge_1 7 21 rfl) (qX9_merge_1 8 4 rfl)
theorem dX9_merge_25 : decode cX9_merge 25 = .ok (.iaload, 1) := @dq_o46 cX9_merge 25 (qX9_merge_1 9 46 rfl)
theorem dX9_merge_26 : decode cX9_merge 26 = .ok (.iload_n 1, 1) := @dq_o27 cX9_merge 26 (qX9_merge_1 10 27 rfl)
theorem dX9_merge_27 : decode cX9_merge 27 = .ok (.if_icmp .ne 15, 3) := @dq_o160 cX9_merge 27 0 15 (qX9_merge_1 11 160 rfl) (qX9_merge_1 12 0 rfl) (qX9_merge_1 13 15 rfl)
theorem dX9_merge_30 : decode cX9_merge 30 = .ok (.aload_n 0, 1) := @dq_o42 cX9_merge 30 (qX9_merge_1 14 42 rfl)
theorem dX9_merge_31 : decode cX9_merge 31 = .ok (.getfield 19, 3) := @dq_o180 cX9_merge 31 0 19 (qX9_merge_1 15 180 rfl) (qX9_merge_2 0 0 rfl) (qX9_merge_2 1 19 rfl)
theorem dX9_merge_34 : decode cX9_merge 34 = .ok (.iload 4, 2) := @dq_o21 cX9_merge 34 4 (qX9_merge_2 2 21 rfl) (qX9_merge_2 3 4 rfl)
theorem dX9_merge_36 : decode cX9_merge 36 = .ok (.dup2, 1) := @dq_o92 cX9_merge 36 (qX9_merge_2 4 92 rfl)
theorem dX9_merge_37 : decode cX9_merge 37 = .ok (.laload, 1) := @dq_o47 cX9_merge 37 (qX9_merge_2 5 47 rfl)
theorem dX9_merge_38 : decode cX9_merge 38 = .ok (.lload_n 2, 1) := @dq_o32 cX9_merge 38 (qX9_merge_2 6 32 rfl)
theorem dX9_merge_39 : decode cX9_merge 39 = .ok (.ladd, 1) := @dq_o97 cX9_merge 39 (qX9_merge_2 7 97 rfl)
theorem dX9_merge_40 : decode cX9_merge 40 = .ok (.lastore, 1) := @dq_o80 cX9_merge 40 (qX9_merge_2 8 80 rfl)
theorem dX9_merge_41 : decode cX9_merge 41 = .ok (.return_, 1) := @dq_o177 cX9_merge 41 (qX9_merge_2 9 177 rfl)
theorem dX9_merge_42 : decode cX9_merge 42 = .ok (.iinc 4 1, 3) := @dq_o132 cX9_merge 42 4 1 (qX9_merge_2 10 132 rfl) (qX9_merge_2 11 4 rfl) (qX9_merge_2 12 1 rfl)
theorem dX9_merge_45 : decode cX9_merge 45 = .ok (.goto (-35), 3) := @dq_o167 cX9_merge 45 255 221 (qX9_merge_2 13 167 rfl) (qX9_merge_2 14 255 rfl) (qX9_merge_2 15 221 rfl)
theorem dX9_merge_48 : decode cX9_merge 48 = .ok (.aload_n 0, 1) := @dq_o42 cX9_merge 48 (qX9_merge_3 0 42 rfl)
theorem dX9_merge_49 : decode cX9_merge 49 = .ok (.iload_n 1, 1) := @dq_o27 cX9_merge 49 (qX9_merge_3 1 27 rfl)
theorem dX9_merge_50 : decode cX9_merge 50 = .ok (.lload_n 2, 1) := @dq_o32 cX9_merge 50 (qX9_merge_3 2 32 rfl)
theorem dX9_merge_51 : decode cX9_merge 51 = .ok (.invokevirtual 30, 3) := @dq_o182 cX9_merge 51 0 30 (qX9_merge_3 3 182 rfl) (qX9_merge_3 4 0 rfl) (qX9_merge_3 5 30 rfl)
theorem dX9_merge_54 : decode cX9_merge 54 = .ok (.return_, 1) := @dq_o177 cX9_merge 54 (qX9_merge_3 6 177 rfl)
abbrev qaX9_value_0 : List Nat := [9, 65, 3, 54, 4, 21, 4, 42, 180, 0, 9, 162, 0, 58, 42, 180]
abbrev qaX9_value_1 : List Nat := [0, 23, 21, 4, 46, 54, 5, 32, 42, 180, 0, 19, 21, 4, 47, 43]
abbrev qaX9_value_2 : List Nat := [21, 5, 16, 63, 126, 47, 105, 43, 21, 5, 16, 6, 122, 16, 63, 126]
abbrev qaX9_value_3 : List Nat := [47, 105, 43, 21, 5, 16, 12, 122, 16, 63, 126, 47, 105, 97, 65, 132]
abbrev qaX9_value_4 : List Nat := [4, 1, 167, 255, 195, 32, 173]
def qtX9_value_5 : List Nat := []
def qtX9_value_4 : List Nat := qaX9_value_4 ++ qtX9_value_5
def qtX9_value_3 : List Nat := qaX9_value_3 ++ qtX9_value_4
def qtX9_value_2 : List Nat := qaX9_value_2 ++ qtX9_value_3
def qtX9_value_1 : List Nat := qaX9_value_1 ++ qtX9_value_2
def qtX9_value_0 : List Nat := qaX9_value_0 ++ qtX9_value_1
theorem qeX9_value : cX9_value.data.toList.map UInt8.toNat = qtX9_value_0 := by decide +kernel
theorem qsX9_value_0 : ∀ i, dqNth qtX9_value_0 (0 + i) = dqNth qtX9_value_0 i := fun i => by rw [Nat.zero_add]
theorem qsX9_value_1 : ∀ i, dqNth qtX9_value_0 (16 + i) = dqNth qtX9_value_1 i := dq_step qsX9_value_0 rfl rfl
theorem qsX9_value_2 : ∀ i, dqNth qtX9_value_0 (32 + i) = dqNth qtX9_value_2 i := dq_step qsX9_value_1 rfl rfl
theorem qsX9_value_3 : ∀ i, dqNth qtX9_value_0 (48 + i) = dqNth qtX9_value_3 i := dq_step qsX9_value_2 rfl rfl
theorem qsX9_value_4 : ∀ i, dqNth qtX9_value_0 (64 + i) = dqNth qtX9_value_4 i := dq_step qsX9_value_3 rfl rfl
theorem qX9_value_0 (i b : Nat) (h : dqNth qaX9_value_0 i = some b) : DqBy cX9_value (0 + i) b := dqBy_of qeX9_value ((qsX9_value_0 i).trans (dq_in h))
theorem qX9_value_1 (i b : Nat) (h : dqNth qaX9_value_1 i = some b) : DqBy cX9_value (16 + i) b := dqBy_of qeX9_value ((qsX9_value_1 i).trans (dq_in h))
theorem qX9_value_2 (i b : Nat) (h : dqNth qaX9_value_2 i = some b) : DqBy cX9_value (32 + i) b := dqBy_of qeX9_value ((qsX9_value_2 i).trans (dq_in h))
theorem qX9_value_3 (i b : Nat) (h : dqNth qaX9_value_3 i = some b) : DqBy cX9_value (48 + i) b := dqBy_of qeX9_value ((qsX9_value_3 i).trans (dq_in h))
theorem qX9_value_4 (i b : Nat) (h : dqNth qaX9_value_4 i = some b) : DqBy cX9_value (64 + i) b := dqBy_of qeX9_value ((qsX9_value_4 i).trans (dq_in h))
theorem dX9_value_0 : decode cX9_value 0 = .ok (.lconst 0, 1) := @dq_o9 cX9_value 0 (qX9_value_0 0 9 rfl)
theorem dX9_value_1 : decode cX9_value 1 = .ok (.lstore_n 2, 1) := @dq_o65 cX9_value 1 (qX9_value_0 1 65 rfl)
theorem dX9_value_2 : decode cX9_value 2 = .ok (.iconst 0, 1) := @dq_o3 cX9_value 2 (qX9_value_0 2 3 rfl)
theorem dX9_value_3 : decode cX9_value 3 = .ok (.istore 4, 2) := @dq_o54 cX9_value 3 4 (qX9_value_0 3 54 rfl) (qX9_value_0 4 4 rfl)
theorem dX9_value_5 : decode cX9_value 5 = .ok (.iload 4, 2) := @dq_o21 cX9_value 5 4 (qX9_value_0 5 21 rfl) (qX9_value_0 6 4 rfl)
theorem dX9_value_7 : decode cX9_value 7 = .ok (.aload_n 0, 1) := @dq_o42 cX9_value 7 (qX9_value_0 7 42 rfl)
theorem dX9_value_8 : decode cX9_value 8 = .ok (.getfield 9, 3) := @dq_o180 cX9_value 8 0 9 (qX9_value_0 8 180 rfl) (qX9_value_0 9 0 rfl) (qX9_value_0 10 9 rfl)
theorem dX9_value_11 : decode cX9_value 11 = .ok (.if_icmp .ge 58, 3) := @dq_o162 cX9_value 11 0 58 (qX9_value_0 11 162 rfl) (qX9_value_0 12 0 rfl) (qX9_value_0 13 58 rfl)
theorem dX9_value_14 : decode cX9_value 14 = .ok (.aload_n 0, 1) := @dq_o42 cX9_value 14 (qX9_value_0 14 42 rfl)
theorem dX9_value_15 : decode cX9_value 15 = .ok (.getfield 23, 3) := @dq_o180 cX9_value 15 0 23 (qX9_value_0 15 180 rfl) (qX9_value_1 0 0 rfl) (qX9_value_1 1 23 rfl)
theorem dX9_value_18 : decode cX9_value 18 = .ok (.iload 4, 2) := @dq_o21 cX9_value 18 4 (qX9_value_1 2 21 rfl) (qX9_value_1 3 4 rfl)
theorem dX9_value_20 : decode cX9_value 20 = .ok (.iaload, 1) := @dq_o46 cX9_value 20 (qX9_value_1 4 46 rfl)
theorem dX9_value_21 : decode cX9_value 21 = .ok (.istore 5, 2) := @dq_o54 cX9_value 21 5 (qX9_value_1 5 54 rfl) (qX9_value_1 6 5 rfl)
theorem dX9_value_23 : decode cX9_value 23 = .ok (.lload_n 2, 1) := @dq_o32 cX9_value 23 (qX9_value_1 7 32 rfl)
theorem dX9_value_24 : decode cX9_value 24 = .ok (.aload_n 0, 1) := @dq_o42 cX9_value 24 (qX9_value_1 8 42 rfl)
theorem dX9_value_25 : decode cX9_value 25 = .ok (.getfield 19, 3) := @dq_o180 cX9_value 25 0 19 (qX9_value_1 9 180 rfl) (qX9_value_1 10 0 rfl) (qX9_value_1 11 19 rfl)
theorem dX9_value_28 : decode cX9_value 28 = .ok (.iload 4, 2) := @dq_o21 cX9_value 28 4 (qX9_value_1 12 21 rfl) (qX9_value_1 13 4 rfl)
theorem dX9_value_30 : decode cX9_value 30 = .ok (.laload, 1) := @dq_o47 cX9_value 30 (qX9_value_1 14 47 rfl)
theorem dX9_value_31 : decode cX9_value 31 = .ok (.aload_n 1, 1) := @dq_o43 cX9_value 31 (qX9_value_1 15 43 rfl)
theorem dX9_value_32 : decode cX9_value 32 = .ok (.iload 5, 2) := @dq_o21 cX9_value 32 5 (qX9_value_2 0 21 rfl) (qX9_value_2 1 5 rfl)
theorem dX9_value_34 : decode cX9_value 34 = .ok (.bipush 63, 2) := @dq_o16 cX9_value 34 63 (qX9_value_2 2 16 rfl) (qX9_value_2 3 63 rfl)
theorem dX9_value_36 : decode cX9_value 36 = .ok (.iand, 1) := @dq_o126 cX9_value 36 (qX9_value_2 4 126 rfl)
theorem dX9_value_37 : decode cX9_value 37 = .ok (.laload, 1) := @dq_o47 cX9_value 37 (qX9_value_2 5 47 rfl)
theorem dX9_value_38 : decode cX9_value 38 = .ok (.lmul, 1) := @dq_o105 cX9_value 38 (qX9_value_2 6 105 rfl)
theorem dX9_value_39 : decode cX9_value 39 = .ok (.aload_n 1, 1) := @dq_o43 cX9_value 39 (qX9_value_2 7 43 rfl)
theorem dX9_value_40 : decode cX9_value 40 = .ok (.iload 5, 2) := @dq_o21 cX9_value 40 5 (qX9_value_2 8 21 rfl) (qX9_value_2 9 5 rfl)
theorem dX9_value_42 : decode cX9_value 42 = .ok (.bipush 6, 2) := @dq_o16 cX9_value 42 6 (qX9_value_2 10 16 rfl) (qX9_value_2 11 6 rfl)
theorem dX9_value_44 : decode cX9_value 44 = .ok (.ishr, 1) := @dq_o122 cX9_value 44 (qX9_value_2 12 122 rfl)
theorem dX9_value_45 : decode cX9_value 45 = .ok (.bipush 63, 2) := @dq_o16 cX9_value 45 63 (qX9_value_2 13 16 rfl) (qX9_value_2 14 63 rfl)
theorem dX9_value_47 : decode cX9_value 47 = .ok (.iand, 1) := @dq_o126 cX9_value 47 (qX9_value_2 15 126 rfl)
theorem dX9_value_48 : decode cX9_value 48 = .ok (.laload, 1) := @dq_o47 cX9_value 48 (qX9_value_3 0 47 rfl)
theorem dX9_value_49 : decode cX9_value 49 = .ok (.lmul, 1) := @dq_o105 cX9_value 49 (qX9_value_3 1 105 rfl)
theorem dX9_value_50 : decode cX9_value 50 = .ok (.aload_n 1, 1) := @dq_o43 cX9_value 50 (qX9_value_3 2 43 rfl)
theorem dX9_value_51 : decode cX9_value 51 = .ok (.iload 5, 2) := @dq_o21 cX9_value 51 5 (qX9_value_3 3 21 rfl) (qX9_value_3 4 5 rfl)
theorem dX9_value_53 : decode cX9_value 53 = .ok (.bipush 12, 2) := @dq_o16 cX9_value 53 12 (qX9_value_3 5 16 rfl) (qX9_value_3 6 12 rfl)
theorem dX9_value_55 : decode cX9_value 55 = .ok (.ishr, 1) := @dq_o122 cX9_value 55 (qX9_value_3 7 122 rfl)
theorem dX9_value_56 : decode cX9_value 56 = .ok (.bipush 63, 2) := @dq_o16 cX9_value 56 63 (qX9_value_3 8 16 rfl) (qX9_value_3 9 63 rfl)
theorem dX9_value_58 : decode cX9_value 58 = .ok (.iand, 1) := @dq_o126 cX9_value 58 (qX9_value_3 10 126 rfl)
theorem dX9_value_59 : decode cX9_value 59 = .ok (.laload, 1) := @dq_o47 cX9_value 59 (qX9_value_3 11 47 rfl)
theorem dX9_value_60 : decode cX9_value 60 = .ok (.lmul, 1) := @dq_o105 cX9_value 60 (qX9_value_3 12 105 rfl)
theorem dX9_value_61 : decode cX9_value 61 = .ok (.ladd, 1) := @dq_o97 cX9_value 61 (qX9_value_3 13 97 rfl)
theorem dX9_value_62 : decode cX9_value 62 = .ok (.lstore_n 2, 1) := @dq_o65 cX9_value 62 (qX9_value_3 14 65 rfl)
theorem dX9_value_63 : decode cX9_value 63 = .ok (.iinc 4 1, 3) := @dq_o132 cX9_value 63 4 1 (qX9_value_3 15 132 rfl) (qX9_value_4 0 4 rfl) (qX9_value_4 1 1 rfl)
theorem dX9_value_66 : decode cX9_value 66 = .ok (.goto (-61), 3) := @dq_o167 cX9_value 66 255 195 (qX9_value_4 2 167 rfl) (qX9_value_4 3 255 rfl) (qX9_value_4 4 195 rfl)
theorem dX9_value_69 : decode cX9_value 69 = .ok (.lload_n 2, 1) := @dq_o32 cX9_value 69 (qX9_value_4 5 32 rfl)
theorem dX9_value_70 : decode cX9_value 70 = .ok (.lreturn, 1) := @dq_o173 cX9_value 70 (qX9_value_4 6 173 rfl)
abbrev qaX9_factors_0 : List Nat := [43, 26, 16, 63, 126, 47, 43, 26, 16, 6, 122, 16, 63, 126, 47, 105]
abbrev qaX9_factors_1 : List Nat := [43, 26, 16, 12, 122, 16, 63, 126, 47, 105, 173]
def qtX9_factors_2 : List Nat := []
def qtX9_factors_1 : List Nat := qaX9_factors_1 ++ qtX9_factors_2
def qtX9_factors_0 : List Nat := qaX9_factors_0 ++ qtX9_factors_1
theorem qeX9_factors : cX9_factors.data.toList.map UInt8.toNat = qtX9_factors_0 := by decide +kernel
theorem qsX9_factors_0 : ∀ i, dqNth qtX9_factors_0 (0 + i) = dqNth qtX9_factors_0 i := fun i => by rw [Nat.zero_add]
theorem qsX9_factors_1 : ∀ i, dqNth qtX9_factors_0 (16 + i) = dqNth qtX9_factors_1 i := dq_step qsX9_factors_0 rfl rfl
theorem qX9_factors_0 (i b : Nat) (h : dqNth qaX9_factors_0 i = some b) : DqBy cX9_factors (0 + i) b := dqBy_of qeX9_factors ((qsX9_factors_0 i).trans (dq_in h))
theorem qX9_factors_1 (i b : Nat) (h : dqNth qaX9_factors_1 i = some b) : DqBy cX9_factors (16 + i) b := dqBy_of qeX9_factors ((qsX9_factors_1 i).trans (dq_in h))
theorem dX9_factors_0 : decode cX9_factors 0 = .ok (.aload_n 1, 1) := @dq_o43 cX9_factors 0 (qX9_factors_0 0 43 rfl)
theorem dX9_factors_1 : decode cX9_factors 1 = .ok (.iload_n 0, 1) := @dq_o26 cX9_factors 1 (qX9_factors_0 1 26 rfl)
theorem dX9_factors_2 : decode cX9_factors 2 = .ok (.bipush 63, 2) := @dq_o16 cX9_factors 2 63 (qX9_factors_0 2 16 rfl) (qX9_factors_0 3 63 rfl)
theorem dX9_factors_4 : decode cX9_factors 4 = .ok (.iand, 1) := @dq_o126 cX9_factors 4 (qX9_factors_0 4 126 rfl)
theorem dX9_factors_5 : decode cX9_factors 5 = .ok (.laload, 1) := @dq_o47 cX9_factors 5 (qX9_factors_0 5 47 rfl)
theorem dX9_factors_6 : decode cX9_factors 6 = .ok (.aload_n 1, 1) := @dq_o43 cX9_factors 6 (qX9_factors_0 6 43 rfl)
theorem dX9_factors_7 : decode cX9_factors 7 = .ok (.iload_n 0, 1) := @dq_o26 cX9_factors 7 (qX9_factors_0 7 26 rfl)
theorem dX9_factors_8 : decode cX9_factors 8 = .ok (.bipush 6, 2) := @dq_o16 cX9_factors 8 6 (qX9_factors_0 8 16 rfl) (qX9_factors_0 9 6 rfl)
theorem dX9_factors_10 : decode cX9_factors 10 = .ok (.ishr, 1) := @dq_o122 cX9_factors 10 (qX9_factors_0 10 122 rfl)
theorem dX9_factors_11 : decode cX9_factors 11 = .ok (.bipush 63, 2) := @dq_o16 cX9_factors 11 63 (qX9_factors_0 11 16 rfl) (qX9_factors_0 12 63 rfl)
theorem dX9_factors_13 : decode cX9_factors 13 = .ok (.iand, 1) := @dq_o126 cX9_factors 13 (qX9_factors_0 13 126 rfl)
theorem dX9_factors_14 : decode cX9_factors 14 = .ok (.laload, 1) := @dq_o47 cX9_factors 14 (qX9_factors_0 14 47 rfl)
theorem dX9_factors_15 : decode cX9_factors 15 = .ok (.lmul, 1) := @dq_o105 cX9_factors 15 (qX9_factors_0 15 105 rfl)
theorem dX9_factors_16 : decode cX9_factors 16 = .ok (.aload_n 1, 1) := @dq_o43 cX9_factors 16 (qX9_factors_1 0 43 rfl)
theorem dX9_factors_17 : decode cX9_factors 17 = .ok (.iload_n 0, 1) := @dq_o26 cX9_factors 17 (qX9_factors_1 1 26 rfl)
theorem dX9_factors_18 : decode cX9_factors 18 = .ok (.bipush 12, 2) := @dq_o16 cX9_factors 18 12 (qX9_factors_1 2 16 rfl) (qX9_factors_1 3 12 rfl)
theorem dX9_factors_20 : decode cX9_factors 20 = .ok (.ishr, 1) := @dq_o122 cX9_factors 20 (qX9_factors_1 4 122 rfl)
theorem dX9_factors_21 : decode cX9_factors 21 = .ok (.bipush 63, 2) := @dq_o16 cX9_factors 21 63 (qX9_factors_1 5 16 rfl) (qX9_factors_1 6 63 rfl)
theorem dX9_factors_23 : decode cX9_factors 23 = .ok (.iand, 1) := @dq_o126 cX9_factors 23 (qX9_factors_1 7 126 rfl)
theorem dX9_factors_24 : decode cX9_factors 24 = .ok (.laload, 1) := @dq_o47 cX9_factors 24 (qX9_factors_1 8 47 rfl)
theorem dX9_factors_25 : decode cX9_factors 25 = .ok (.lmul, 1) := @dq_o105 cX9_factors 25 (qX9_factors_1 9 105 rfl)
theorem dX9_factors_26 : decode cX9_factors 26 = .ok (.lreturn, 1) := @dq_o173 cX9_factors 26 (qX9_factors_1 10 173 rfl)
abbrev qaX9_placesOf_0 : List Nat := [3, 60, 3, 61, 28, 16, 12, 162, 0, 30, 26, 28, 184, 0, 34, 62]
abbrev qaX9_placesOf_1 : List Nat := [29, 158, 0, 14, 27, 16, 6, 120, 7, 28, 104, 29, 96, 128, 60, 132]
abbrev qaX9_placesOf_2 : List Nat := [2, 1, 167, 255, 226, 27, 172]
def qtX9_placesOf_3 : List Nat := []
def qtX9_placesOf_2 : List Nat := qaX9_placesOf_2 ++ qtX9_placesOf_3
def qtX9_placesOf_1 : List Nat := qaX9_placesOf_1 ++ qtX9_placesOf_2
def qtX9_placesOf_0 : List Nat := qaX9_placesOf_0 ++ qtX9_placesOf_1
theorem qeX9_placesOf : cX9_placesOf.data.toList.map UInt8.toNat = qtX9_placesOf_0 := by decide +kernel
theorem qsX9_placesOf_0 : ∀ i, dqNth qtX9_placesOf_0 (0 + i) = dqNth qtX9_placesOf_0 i := fun i => by rw [Nat.zero_add]
theorem qsX9_placesOf_1 : ∀ i, dqNth qtX9_placesOf_0 (16 + i) = dqNth qtX9_placesOf_1 i := dq_step qsX9_placesOf_0 rfl rfl
theorem qsX9_placesOf_2 : ∀ i, dqNth qtX9_placesOf_0 (32 + i) = dqNth qtX9_placesOf_2 i := dq_step qsX9_placesOf_1 rfl rfl
theorem qX9_placesOf_0 (i b : Nat) (h : dqNth qaX9_placesOf_0 i = some b) : DqBy cX9_placesOf (0 + i) b := dqBy_of qeX9_placesOf ((qsX9_placesOf_0 i).trans (dq_in h))
theorem qX9_placesOf_1 (i b : Nat) (h : dqNth qaX9_placesOf_1 i = some b) : DqBy cX9_placesOf (16 + i) b := dqBy_of qeX9_placesOf ((qsX9_placesOf_1 i).trans (dq_in h))
theorem qX9_placesOf_2 (i b : Nat) (h : dqNth qaX9_placesOf_2 i = some b) : DqBy cX9_placesOf (32 + i) b := dqBy_of qeX9_placesOf ((qsX9_placesOf_2 i).trans (dq_in h))
theorem dX9_placesOf_0 : decode cX9_placesOf 0 = .ok (.iconst 0, 1) := @dq_o3 cX9_placesOf 0 (qX9_placesOf_0 0 3 rfl)
theorem dX9_placesOf_1 : decode cX9_placesOf 1 = .ok (.istore_n 1, 1) := @dq_o60 cX9_placesOf 1 (qX9_placesOf_0 1 60 rfl)
theorem dX9_placesOf_2 : decode cX9_placesOf 2 = .ok (.iconst 0, 1) := @dq_o3 cX9_placesOf 2 (qX9_placesOf_0 2 3 rfl)
theorem dX9_placesOf_3 : decode cX9_placesOf 3 = .ok (.istore_n 2, 1) := @dq_o61 cX9_placesOf 3 (qX9_placesOf_0 3 61 rfl)
theorem dX9_placesOf_4 : decode cX9_placesOf 4 = .ok (.iload_n 2, 1) := @dq_o28 cX9_placesOf 4 (qX9_placesOf_0 4 28 rfl)
theorem dX9_placesOf_5 : decode cX9_placesOf 5 = .ok (.bipush 12, 2) := @dq_o16 cX9_placesOf 5 12 (qX9_placesOf_0 5 16 rfl) (qX9_placesOf_0 6 12 rfl)
theorem dX9_placesOf_7 : decode cX9_placesOf 7 = .ok (.if_icmp .ge 30, 3) := @dq_o162 cX9_placesOf 7 0 30 (qX9_placesOf_0 7 162 rfl) (qX9_placesOf_0 8 0 rfl) (qX9_placesOf_0 9 30 rfl)
theorem dX9_placesOf_10 : decode cX9_placesOf 10 = .ok (.iload_n 0, 1) := @dq_o26 cX9_placesOf 10 (qX9_placesOf_0 10 26 rfl)
theorem dX9_placesOf_11 : decode cX9_placesOf 11 = .ok (.iload_n 2, 1) := @dq_o28 cX9_placesOf 11 (qX9_placesOf_0 11 28 rfl)
theorem dX9_placesOf_12 : decode cX9_placesOf 12 = .ok (.invokestatic 34, 3) := @dq_o184 cX9_placesOf 12 0 34 (qX9_placesOf_0 12 184 rfl) (qX9_placesOf_0 13 0 rfl) (qX9_placesOf_0 14 34 rfl)
theorem dX9_placesOf_15 : decode cX9_placesOf 15 = .ok (.istore_n 3, 1) := @dq_o62 cX9_placesOf 15 (qX9_placesOf_0 15 62 rfl)
theorem dX9_placesOf_16 : decode cX9_placesOf 16 = .ok (.iload_n 3, 1) := @dq_o29 cX9_placesOf 16 (qX9_placesOf_1 0 29 rfl)
theorem dX9_placesOf_17 : decode cX9_placesOf 17 = .ok (.ifCond .le 14, 3) := @dq_o158 cX9_placesOf 17 0 14 (qX9_placesOf_1 1 158 rfl) (qX9_placesOf_1 2 0 rfl) (qX9_placesOf_1 3 14 rfl)
theorem dX9_placesOf_20 : decode cX9_placesOf 20 = .ok (.iload_n 1, 1) := @dq_o27 cX9_placesOf 20 (qX9_placesOf_1 4 27 rfl)
theorem dX9_placesOf_21 : decode cX9_placesOf 21 = .ok (.bipush 6, 2) := @dq_o16 cX9_placesOf 21 6 (qX9_placesOf_1 5 16 rfl) (qX9_placesOf_1 6 6 rfl)
theorem dX9_placesOf_23 : decode cX9_placesOf 23 = .ok (.ishl, 1) := @dq_o120 cX9_placesOf 23 (qX9_placesOf_1 7 120 rfl)
theorem dX9_placesOf_24 : decode cX9_placesOf 24 = .ok (.iconst 4, 1) := @dq_o7 cX9_placesOf 24 (qX9_placesOf_1 8 7 rfl)
theorem dX9_placesOf_25 : decode cX9_placesOf 25 = .ok (.iload_n 2, 1) := @dq_o28 cX9_placesOf 25 (qX9_placesOf_1 9 28 rfl)
theorem dX9_placesOf_26 : decode cX9_placesOf 26 = .ok (.imul, 1) := @dq_o104 cX9_placesOf 26 (qX9_placesOf_1 10 104 rfl)
theorem dX9_placesOf_27 : decode cX9_placesOf 27 = .ok (.iload_n 3, 1) := @dq_o29 cX9_placesOf 27 (qX9_placesOf_1 11 29 rfl)
theorem dX9_placesOf_28 : decode cX9_placesOf 28 = .ok (.iadd, 1) := @dq_o96 cX9_placesOf 28 (qX9_placesOf_1 12 96 rfl)
theorem dX9_placesOf_29 : decode cX9_placesOf 29 = .ok (.ior, 1) := @dq_o128 cX9_placesOf 29 (qX9_placesOf_1 13 128 rfl)
theorem dX9_placesOf_30 : decode cX9_placesOf 30 = .ok (.istore_n 1, 1) := @dq_o60 cX9_placesOf 30 (qX9_placesOf_1 14 60 rfl)
theorem dX9_placesOf_31 : decode cX9_placesOf 31 = .ok (.iinc 2 1, 3) := @dq_o132 cX9_placesOf 31 2 1 (qX9_placesOf_1 15 132 rfl) (qX9_placesOf_2 0 2 rfl) (qX9_placesOf_2 1 1 rfl)
theorem dX9_placesOf_34 : decode cX9_placesOf 34 = .ok (.goto (-30), 3) := @dq_o167 cX9_placesOf 34 255 226 (qX9_placesOf_2 2 167 rfl) (qX9_placesOf_2 3 255 rfl) (qX9_placesOf_2 4 226 rfl)
theorem dX9_placesOf_37 : decode cX9_placesOf 37 = .ok (.iload_n 1, 1) := @dq_o27 cX9_placesOf 37 (qX9_placesOf_2 5 27 rfl)
theorem dX9_placesOf_38 : decode cX9_placesOf 38 = .ok (.ireturn, 1) := @dq_o172 cX9_placesOf 38 (qX9_placesOf_2 6 172 rfl)
abbrev qaX9_greatestDegree_0 : List Nat := [3, 60, 3, 61, 28, 42, 180, 0, 9, 162, 0, 47, 3, 62, 3, 54]
abbrev qaX9_greatestDegree_1 : List Nat := [4, 21, 4, 16, 12, 162, 0, 23, 29, 42, 180, 0, 15, 28, 46, 21]
abbrev qaX9_greatestDegree_2 : List Nat := [4, 184, 0, 34, 96, 62, 132, 4, 1, 167, 255, 232, 27, 29, 184, 0]
abbrev qaX9_greatestDegree_3 : List Nat := [38, 60, 132, 2, 1, 167, 255, 207, 27, 172]
def qtX9_greatestDegree_4 : List Nat := []
def qtX9_greatestDegree_3 : List Nat := qaX9_greatestDegree_3 ++ qtX9_greatestDegree_4
def qtX9_greatestDegree_2 : List Nat := qaX9_greatestDegree_2 ++ qtX9_greatestDegree_3
def qtX9_greatestDegree_1 : List Nat := qaX9_greatestDegree_1 ++ qtX9_greatestDegree_2
def qtX9_greatestDegree_0 : List Nat := qaX9_greatestDegree_0 ++ qtX9_greatestDegree_1
theorem qeX9_greatestDegree : cX9_greatestDegree.data.toList.map UInt8.toNat = qtX9_greatestDegree_0 := by decide +kernel
theorem qsX9_greatestDegree_0 : ∀ i, dqNth qtX9_greatestDegree_0 (0 + i) = dqNth qtX9_greatestDegree_0 i := fun i => by rw [Nat.zero_add]
theorem qsX9_greatestDegree_1 : ∀ i, dqNth qtX9_greatestDegree_0 (16 + i) = dqNth qtX9_greatestDegree_1 i := dq_step qsX9_greatestDegree_0 rfl rfl
theorem qsX9_greatestDegree_2 : ∀ i, dqNth qtX9_greatestDegree_0 (32 + i) = dqNth qtX9_greatestDegree_2 i := dq_step qsX9_greatestDegree_1 rfl rfl
theorem qsX9_greatestDegree_3 : ∀ i, dqNth qtX9_greatestDegree_0 (48 + i) = dqNth qtX9_greatestDegree_3 i := dq_step qsX9_greatestDegree_2 rfl rfl
theorem qX9_greatestDegree_0 (i b : Nat) (h : dqNth qaX9_greatestDegree_0 i = some b) : DqBy cX9_greatestDegree (0 + i) b := dqBy_of qeX9_greatestDegree ((qsX9_greatestDegree_0 i).trans (dq_in h))
theorem qX9_greatestDegree_1 (i b : Nat) (h : dqNth qaX9_greatestDegree_1 i = some b) : DqBy cX9_greatestDegree (16 + i) b := dqBy_of qeX9_greatestDegree ((qsX9_greatestDegree_1 i).trans (dq_in h))
theorem qX9_greatestDegree_2 (i b : Nat) (h : dqNth qaX9_greatestDegree_2 i = some b) : DqBy cX9_greatestDegree (32 + i) b := dqBy_of qeX9_greatestDegree ((qsX9_greatestDegree_2 i).trans (dq_in h))
theorem qX9_greatestDegree_3 (i b : Nat) (h : dqNth qaX9_greatestDegree_3 i = some b) : DqBy cX9_greatestDegree (48 + i) b := dqBy_of qeX9_greatestDegree ((qsX9_greatestDegree_3 i).trans (dq_in h))
theorem dX9_greatestDegree_0 : decode cX9_greatestDegree 0 = .ok (.iconst 0, 1) := @dq_o3 cX9_greatestDegree 0 (qX9_greatestDegree_0 0 3 rfl)
theorem dX9_greatestDegree_1 : decode cX9_greatestDegree 1 = .ok (.istore_n 1, 1) := @dq_o60 cX9_greatestDegree 1 (qX9_greatestDegree_0 1 60 rfl)
theorem dX9_greatestDegree_2 : decode cX9_greatestDegree 2 = .ok (.iconst 0, 1) := @dq_o3 cX9_greatestDegree 2 (qX9_greatestDegree_0 2 3 rfl)
theorem dX9_greatestDegree_3 : decode cX9_greatestDegree 3 = .ok (.istore_n 2, 1) := @dq_o61 cX9_greatestDegree 3 (qX9_greatestDegree_0 3 61 rfl)
theorem dX9_greatestDegree_4 : decode cX9_greatestDegree 4 = .ok (.iload_n 2, 1) := @dq_o28 cX9_greatestDegree 4 (qX9_greatestDegree_0 4 28 rfl)
theorem dX9_greatestDegree_5 : decode cX9_greatestDegree 5 = .ok (.aload_n 0, 1) := @dq_o42 cX9_greatestDegree 5 (qX9_greatestDegree_0 5 42 rfl)
theorem dX9_greatestDegree_6 : decode cX9_greatestDegree 6 = .ok (.getfield 9, 3) := @dq_o180 cX9_greatestDegree 6 0 9 (qX9_greatestDegree_0 6 180 rfl) (qX9_greatestDegree_0 7 0 rfl) (qX9_greatestDegree_0 8 9 rfl)
theorem dX9_greatestDegree_9 : decode cX9_greatestDegree 9 = .ok (.if_icmp .ge 47, 3) := @dq_o162 cX9_greatestDegree 9 0 47 (qX9_greatestDegree_0 9 162 rfl) (qX9_greatestDegree_0 10 0 rfl) (qX9_greatestDegree_0 11 47 rfl)
theorem dX9_greatestDegree_12 : decode cX9_greatestDegree 12 = .ok (.iconst 0, 1) := @dq_o3 cX9_greatestDegree 12 (qX9_greatestDegree_0 12 3 rfl)
theorem dX9_greatestDegree_13 : decode cX9_greatestDegree 13 = .ok (.istore_n 3, 1) := @dq_o62 cX9_greatestDegree 13 (qX9_greatestDegree_0 13 62 rfl)
theorem dX9_greatestDegree_14 : decode cX9_greatestDegree 14 = .ok (.iconst 0, 1) := @dq_o3 cX9_greatestDegree 14 (qX9_greatestDegree_0 14 3 rfl)
theorem dX9_greatestDegree_15 : decode cX9_greatestDegree 15 = .ok (.istore 4, 2) := @dq_o54 cX9_greatestDegree 15 4 (qX9_greatestDegree_0 15 54 rfl) (qX9_greatestDegree_1 0 4 rfl)
theorem dX9_greatestDegree_17 : decode cX9_greatestDegree 17 = .ok (.iload 4, 2) := @dq_o21 cX9_greatestDegree 17 4 (qX9_greatestDegree_1 1 21 rfl) (qX9_greatestDegree_1 2 4 rfl)
theorem dX9_greatestDegree_19 : decode cX9_greatestDegree 19 = .ok (.bipush 12, 2) := @dq_o16 cX9_greatestDegree 19 12 (qX9_greatestDegree_1 3 16 rfl) (qX9_greatestDegree_1 4 12 rfl)
theorem dX9_greatestDegree_21 : decode cX9_greatestDegree 21 = .ok (.if_icmp .ge 23, 3) := @dq_o162 cX9_greatestDegree 21 0 23 (qX9_greatestDegree_1 5 162 rfl) (qX9_greatestDegree_1 6 0 rfl) (qX9_greatestDegree_1 7 23 rfl)
theorem dX9_greatestDegree_24 : decode cX9_greatestDegree 24 = .ok (.iload_n 3, 1) := @dq_o29 cX9_greatestDegree 24 (qX9_greatestDegree_1 8 29 rfl)
theorem dX9_greatestDegree_25 : decode cX9_greatestDegree 25 = .ok (.aload_n 0, 1) := @dq_o42 cX9_greatestDegree 25 (qX9_greatestDegree_1 9 42 rfl)
theorem dX9_greatestDegree_26 : decode cX9_greatestDegree 26 = .ok (.getfield 15, 3) := @dq_o180 cX9_greatestDegree 26 0 15 (qX9_greatestDegree_1 10 180 rfl) (qX9_greatestDegree_1 11 0 rfl) (qX9_greatestDegree_1 12 15 rfl)
theorem dX9_greatestDegree_29 : decode cX9_greatestDegree 29 = .ok (.iload_n 2, 1) := @dq_o28 cX9_greatestDegree 29 (qX9_greatestDegree_1 13 28 rfl)
theorem dX9_greatestDegree_30 : decode cX9_greatestDegree 30 = .ok (.iaload, 1) := @dq_o46 cX9_greatestDegree 30 (qX9_greatestDegree_1 14 46 rfl)
theorem dX9_greatestDegree_31 : decode cX9_greatestDegree 31 = .ok (.iload 4, 2) := @dq_o21 cX9_greatestDegree 31 4 (qX9_greatestDegree_1 15 21 rfl) (qX9_greatestDegree_2 0 4 rfl)
theorem dX9_greatestDegree_33 : decode cX9_greatestDegree 33 = .ok (.invokestatic 34, 3) := @dq_o184 cX9_greatestDegree 33 0 34 (qX9_greatestDegree_2 1 184 rfl) (qX9_greatestDegree_2 2 0 rfl) (qX9_greatestDegree_2 3 34 rfl)
theorem dX9_greatestDegree_36 : decode cX9_greatestDegree 36 = .ok (.iadd, 1) := @dq_o96 cX9_greatestDegree 36 (qX9_greatestDegree_2 4 96 rfl)
theorem dX9_greatestDegree_37 : decode cX9_greatestDegree 37 = .ok (.istore_n 3, 1) := @dq_o62 cX9_greatestDegree 37 (qX9_greatestDegree_2 5 62 rfl)
theorem dX9_greatestDegree_38 : decode cX9_greatestDegree 38 = .ok (.iinc 4 1, 3) := @dq_o132 cX9_greatestDegree 38 4 1 (qX9_greatestDegree_2 6 132 rfl) (qX9_greatestDegree_2 7 4 rfl) (qX9_greatestDegree_2 8 1 rfl)
theorem dX9_greatestDegree_41 : decode cX9_greatestDegree 41 = .ok (.goto (-24), 3) := @dq_o167 cX9_greatestDegree 41 255 232 (qX9_greatestDegree_2 9 167 rfl) (qX9_greatestDegree_2 10 255 rfl) (qX9_greatestDegree_2 11 232 rfl)
theorem dX9_greatestDegree_44 : decode cX9_greatestDegree 44 = .ok (.iload_n 1, 1) := @dq_o27 cX9_greatestDegree 44 (qX9_greatestDegree_2 12 27 rfl)
theorem dX9_greatestDegree_45 : decode cX9_greatestDegree 45 = .ok (.iload_n 3, 1) := @dq_o29 cX9_greatestDegree 45 (qX9_greatestDegree_2 13 29 rfl)
theorem dX9_greatestDegree_46 : decode cX9_greatestDegree 46 = .ok (.invokestatic 38, 3) := @dq_o184 cX9_greatestDegree 46 0 38 (qX9_greatestDegree_2 14 184 rfl) (qX9_greatestDegree_2 15 0 rfl) (qX9_greatestDegree_3 0 38 rfl)
theorem dX9_greatestDegree_49 : decode cX9_greatestDegree 49 = .ok (.istore_n 1, 1) := @dq_o60 cX9_greatestDegree 49 (qX9_greatestDegree_3 1 60 rfl)
theorem dX9_greatestDegree_50 : decode cX9_greatestDegree 50 = .ok (.iinc 2 1, 3) := @dq_o132 cX9_greatestDegree 50 2 1 (qX9_greatestDegree_3 2 132 rfl) (qX9_greatestDegree_3 3 2 rfl) (qX9_greatestDegree_3 4 1 rfl)
theorem dX9_greatestDegree_53 : decode cX9_greatestDegree 53 = .ok (.goto (-49), 3) := @dq_o167 cX9_greatestDegree 53 255 207 (qX9_greatestDegree_3 5 167 rfl) (qX9_greatestDegree_3 6 255 rfl) (qX9_greatestDegree_3 7 207 rfl)
theorem dX9_greatestDegree_56 : decode cX9_greatestDegree 56 = .ok (.iload_n 1, 1) := @dq_o27 cX9_greatestDegree 56 (qX9_greatestDegree_3 8 27 rfl)
theorem dX9_greatestDegree_57 : decode cX9_greatestDegree 57 = .ok (.ireturn, 1) := @dq_o172 cX9_greatestDegree 57 (qX9_greatestDegree_3 9 172 rfl)
abbrev qaX9_greatestWeight_0 : List Nat := [3, 61, 3, 62, 29, 42, 180, 0, 9, 162, 0, 62, 3, 54, 4, 3]
abbrev qaX9_greatestWeight_1 : List Nat := [54, 5, 21, 5, 16, 12, 162, 0, 36, 21, 4, 42, 180, 0, 15, 29]
abbrev qaX9_greatestWeight_2 : List Nat := [46, 21, 5, 184, 0, 34, 43, 180, 0, 43, 21, 5, 16, 6, 112, 46]
abbrev qaX9_greatestWeight_3 : List Nat := [104, 96, 54, 4, 132, 5, 1, 167, 255, 219, 28, 21, 4, 184, 0, 38]
abbrev qaX9_greatestWeight_4 : List Nat := [61, 132, 3, 1, 167, 255, 192, 28, 172]
def qtX9_greatestWeight_5 : List Nat := []
def qtX9_greatestWeight_4 : List Nat := qaX9_greatestWeight_4 ++ qtX9_greatestWeight_5
def qtX9_greatestWeight_3 : List Nat := qaX9_greatestWeight_3 ++ qtX9_greatestWeight_4
def qtX9_greatestWeight_2 : List Nat := qaX9_greatestWeight_2 ++ qtX9_greatestWeight_3
def qtX9_greatestWeight_1 : List Nat := qaX9_greatestWeight_1 ++ qtX9_greatestWeight_2
def qtX9_greatestWeight_0 : List Nat := qaX9_greatestWeight_0 ++ qtX9_greatestWeight_1
theorem qeX9_greatestWeight : cX9_greatestWeight.data.toList.map UInt8.toNat = qtX9_greatestWeight_0 := by decide +kernel
theorem qsX9_greatestWeight_0 : ∀ i, dqNth qtX9_greatestWeight_0 (0 + i) = dqNth qtX9_greatestWeight_0 i := fun i => by rw [Nat.zero_add]
theorem qsX9_greatestWeight_1 : ∀ i, dqNth qtX9_greatestWeight_0 (16 + i) = dqNth qtX9_greatestWeight_1 i := dq_step qsX9_greatestWeight_0 rfl rfl
theorem qsX9_greatestWeight_2 : ∀ i, dqNth qtX9_greatestWeight_0 (32 + i) = dqNth qtX9_greatestWeight_2 i := dq_step qsX9_greatestWeight_1 rfl rfl
theorem qsX9_greatestWeight_3 : ∀ i, dqNth qtX9_greatestWeight_0 (48 + i) = dqNth qtX9_greatestWeight_3 i := dq_step qsX9_greatestWeight_2 rfl rfl
theorem qsX9_greatestWeight_4 : ∀ i, dqNth qtX9_greatestWeight_0 (64 + i) = dqNth qtX9_greatestWeight_4 i := dq_step qsX9_greatestWeight_3 rfl rfl
theorem qX9_greatestWeight_0 (i b : Nat) (h : dqNth qaX9_greatestWeight_0 i = some b) : DqBy cX9_greatestWeight (0 + i) b := dqBy_of qeX9_greatestWeight ((qsX9_greatestWeight_0 i).trans (dq_in h))
theorem qX9_greatestWeight_1 (i b : Nat) (h : dqNth qaX9_greatestWeight_1 i = some b) : DqBy cX9_greatestWeight (16 + i) b := dqBy_of qeX9_greatestWeight ((qsX9_greatestWeight_1 i).trans (dq_in h))
theorem qX9_greatestWeight_2 (i b : Nat) (h : dqNth qaX9_greatestWeight_2 i = some b) : DqBy cX9_greatestWeight (32 + i) b := dqBy_of qeX9_greatestWeight ((qsX9_greatestWeight_2 i).trans (dq_in h))
theorem qX9_greatestWeight_3 (i b : Nat) (h : dqNth qaX9_greatestWeight_3 i = some b) : DqBy cX9_greatestWeight (48 + i) b := dqBy_of qeX9_greatestWeight ((qsX9_greatestWeight_3 i).trans (dq_in h))
theorem qX9_greatestWeight_4 (i b : Nat) (h : dqNth qaX9_greatestWeight_4 i = some b) : DqBy cX9_greatestWeight (64 + i) b := dqBy_of qeX9_greatestWeight ((qsX9_greatestWeight_4 i).trans (dq_in h))
theorem dX9_greatestWeight_0 : decode cX9_greatestWeight 0 = .ok (.iconst 0, 1) := @dq_o3 cX9_greatestWeight 0 (qX9_greatestWeight_0 0 3 rfl)
theorem dX9_greatestWeight_1 : decode cX9_greatestWeight 1 = .ok (.istore_n 2, 1) := @dq_o61 cX9_greatestWeight 1 (qX9_greatestWeight_0 1 61 rfl)
theorem dX9_greatestWeight_2 : decode cX9_greatestWeight 2 = .ok (.iconst 0, 1) := @dq_o3 cX9_greatestWeight 2 (qX9_greatestWeight_0 2 3 rfl)
theorem dX9_greatestWeight_3 : decode cX9_greatestWeight 3 = .ok (.istore_n 3, 1) := @dq_o62 cX9_greatestWeight 3 (qX9_greatestWeight_0 3 62 rfl)
theorem dX9_greatestWeight_4 : decode cX9_greatestWeight 4 = .ok (.iload_n 3, 1) := @dq_o29 cX9_greatestWeight 4 (qX9_greatestWeight_0 4 29 rfl)
theorem dX9_greatestWeight_5 : decode cX9_greatestWeight 5 = .ok (.aload_n 0, 1) := @dq_o42 cX9_greatestWeight 5 (qX9_greatestWeight_0 5 42 rfl)
theorem dX9_greatestWeight_6 : decode cX9_greatestWeight 6 = .ok (.getfield 9, 3) := @dq_o180 cX9_greatestWeight 6 0 9 (qX9_greatestWeight_0 6 180 rfl) (qX9_greatestWeight_0 7 0 rfl) (qX9_greatestWeight_0 8 9 rfl)
theorem dX9_greatestWeight_9 : decode cX9_greatestWeight 9 = .ok (.if_icmp .ge 62, 3) := @dq_o162 cX9_greatestWeight 9 0 62 (qX9_greatestWeight_0 9 162 rfl) (qX9_greatestWeight_0 10 0 rfl) (qX9_greatestWeight_0 11 62 rfl)
theorem dX9_greatestWeight_12 : decode cX9_greatestWeight 12 = .ok (.iconst 0, 1) := @dq_o3 cX9_greatestWeight 12 (qX9_greatestWeight_0 12 3 rfl)
theorem dX9_greatestWeight_13 : decode cX9_greatestWeight 13 = .ok (.istore 4, 2) := @dq_o54 cX9_greatestWeight 13 4 (qX9_greatestWeight_0 13 54 rfl) (qX9_greatestWeight_0 14 4 rfl)
theorem dX9_greatestWeight_15 : decode cX9_greatestWeight 15 = .ok (.iconst 0, 1) := @dq_o3 cX9_greatestWeight 15 (qX9_greatestWeight_0 15 3 rfl)
theorem dX9_greatestWeight_16 : decode cX9_greatestWeight 16 = .ok (.istore 5, 2) := @dq_o54 cX9_greatestWeight 16 5 (qX9_greatestWeight_1 0 54 rfl) (qX9_greatestWeight_1 1 5 rfl)
theorem dX9_greatestWeight_18 : decode cX9_greatestWeight 18 = .ok (.iload 5, 2) := @dq_o21 cX9_greatestWeight 18 5 (qX9_greatestWeight_1 2 21 rfl) (qX9_greatestWeight_1 3 5 rfl)
theorem dX9_greatestWeight_20 : decode cX9_greatestWeight 20 = .ok (.bipush 12, 2) := @dq_o16 cX9_greatestWeight 20 12 (qX9_greatestWeight_1 4 16 rfl) (qX9_greatestWeight_1 5 12 rfl)
theorem dX9_greatestWeight_22 : decode cX9_greatestWeight 22 = .ok (.if_icmp .ge 36, 3) := @dq_o162 cX9_greatestWeight 22 0 36 (qX9_greatestWeight_1 6 162 rfl) (qX9_greatestWeight_1 7 0 rfl) (qX9_greatestWeight_1 8 36 rfl)
theorem dX9_greatestWeight_25 : decode cX9_greatestWeight 25 = .ok (.iload 4, 2) := @dq_o21 cX9_greatestWeight 25 4 (qX9_greatestWeight_1 9 21 rfl) (qX9_greatestWeight_1 10 4 rfl)
theorem dX9_greatestWeight_27 : decode cX9_greatestWeight 27 = .ok (.aload_n 0, 1) := @dq_o42 cX9_greatestWeight 27 (qX9_greatestWeight_1 11 42 rfl)
theorem dX9_greatestWeight_28 : decode cX9_greatestWeight 28 = .ok (.getfield 15, 3) := @dq_o180 cX9_greatestWeight 28 0 15 (qX9_greatestWeight_1 12 180 rfl) (qX9_greatestWeight_1 13 0 rfl) (qX9_greatestWeight_1 14 15 rfl)
theorem dX9_greatestWeight_31 : decode cX9_greatestWeight 31 = .ok (.iload_n 3, 1) := @dq_o29 cX9_greatestWeight 31 (qX9_greatestWeight_1 15 29 rfl)
theorem dX9_greatestWeight_32 : decode cX9_greatestWeight 32 = .ok (.iaload, 1) := @dq_o46 cX9_greatestWeight 32 (qX9_greatestWeight_2 0 46 rfl)
theorem dX9_greatestWeight_33 : decode cX9_greatestWeight 33 = .ok (.iload 5, 2) := @dq_o21 cX9_greatestWeight 33 5 (qX9_greatestWeight_2 1 21 rfl) (qX9_greatestWeight_2 2 5 rfl)
theorem dX9_greatestWeight_35 : decode cX9_greatestWeight 35 = .ok (.invokestatic 34, 3) := @dq_o184 cX9_greatestWeight 35 0 34 (qX9_greatestWeight_2 3 184 rfl) (qX9_greatestWeight_2 4 0 rfl) (qX9_greatestWeight_2 5 34 rfl)
theorem dX9_greatestWeight_38 : decode cX9_greatestWeight 38 = .ok (.aload_n 1, 1) := @dq_o43 cX9_greatestWeight 38 (qX9_greatestWeight_2 6 43 rfl)
theorem dX9_greatestWeight_39 : decode cX9_greatestWeight 39 = .ok (.getfield 43, 3) := @dq_o180 cX9_greatestWeight 39 0 43 (qX9_greatestWeight_2 7 180 rfl) (qX9_greatestWeight_2 8 0 rfl) (qX9_greatestWeight_2 9 43 rfl)
theorem dX9_greatestWeight_42 : decode cX9_greatestWeight 42 = .ok (.iload 5, 2) := @dq_o21 cX9_greatestWeight 42 5 (qX9_greatestWeight_2 10 21 rfl) (qX9_greatestWeight_2 11 5 rfl)
theorem dX9_greatestWeight_44 : decode cX9_greatestWeight 44 = .ok (.bipush 6, 2) := @dq_o16 cX9_greatestWeight 44 6 (qX9_greatestWeight_2 12 16 rfl) (qX9_greatestWeight_2 13 6 rfl)
theorem dX9_greatestWeight_46 : decode cX9_greatestWeight 46 = .ok (.irem, 1) := @dq_o112 cX9_greatestWeight 46 (qX9_greatestWeight_2 14 112 rfl)
theorem dX9_greatestWeight_47 : decode cX9_greatestWeight 47 = .ok (.iaload, 1) := @dq_o46 cX9_greatestWeight 47 (qX9_greatestWeight_2 15 46 rfl)
theorem dX9_greatestWeight_48 : decode cX9_greatestWeight 48 = .ok (.imul, 1) := @dq_o104 cX9_greatestWeight 48 (qX9_greatestWeight_3 0 104 rfl)
theorem dX9_greatestWeight_49 : decode cX9_greatestWeight 49 = .ok (.iadd, 1) := @dq_o96 cX9_greatestWeight 49 (qX9_greatestWeight_3 1 96 rfl)
theorem dX9_greatestWeight_50 : decode cX9_greatestWeight 50 = .ok (.istore 4, 2) := @dq_o54 cX9_greatestWeight 50 4 (qX9_greatestWeight_3 2 54 rfl) (qX9_greatestWeight_3 3 4 rfl)
theorem dX9_greatestWeight_52 : decode cX9_greatestWeight 52 = .ok (.iinc 5 1, 3) := @dq_o132 cX9_greatestWeight 52 5 1 (qX9_greatestWeight_3 4 132 rfl) (qX9_greatestWeight_3 5 5 rfl) (qX9_greatestWeight_3 6 1 rfl)
theorem dX9_greatestWeight_55 : decode cX9_greatestWeight 55 = .ok (.goto (-37), 3) := @dq_o167 cX9_greatestWeight 55 255 219 (qX9_greatestWeight_3 7 167 rfl) (qX9_greatestWeight_3 8 255 rfl) (qX9_greatestWeight_3 9 219 rfl)
theorem dX9_greatestWeight_58 : decode cX9_greatestWeight 58 = .ok (.iload_n 2, 1) := @dq_o28 cX9_greatestWeight 58 (qX9_greatestWeight_3 10 28 rfl)
theorem dX9_greatestWeight_59 : decode cX9_greatestWeight 59 = .ok (.iload 4, 2) := @dq_o21 cX9_greatestWeight 59 4 (qX9_greatestWeight_3 11 21 rfl) (qX9_greatestWeight_3 12 4 rfl)
theorem dX9_greatestWeight_61 : decode cX9_greatestWeight 61 = .ok (.invokestatic 38, 3) := @dq_o184 cX9_greatestWeight 61 0 38 (qX9_greatestWeight_3 13 184 rfl) (qX9_greatestWeight_3 14 0 rfl) (qX9_greatestWeight_3 15 38 rfl)
theorem dX9_greatestWeight_64 : decode cX9_greatestWeight 64 = .ok (.istore_n 2, 1) := @dq_o61 cX9_greatestWeight 64 (qX9_greatestWeight_4 0 61 rfl)
theorem dX9_greatestWeight_65 : decode cX9_greatestWeight 65 = .ok (.iinc 3 1, 3) := @dq_o132 cX9_greatestWeight 65 3 1 (qX9_greatestWeight_4 1 132 rfl) (qX9_greatestWeight_4 2 3 rfl) (qX9_greatestWeight_4 3 1 rfl)
theorem dX9_greatestWeight_68 : decode cX9_greatestWeight 68 = .ok (.goto (-64), 3) := @dq_o167 cX9_greatestWeight 68 255 192 (qX9_greatestWeight_4 4 167 rfl) (qX9_greatestWeight_4 5 255 rfl) (qX9_greatestWeight_4 6 192 rfl)
theorem dX9_greatestWeight_71 : decode cX9_greatestWeight 71 = .ok (.iload_n 2, 1) := @dq_o28 cX9_greatestWeight 71 (qX9_greatestWeight_4 7 28 rfl)
theorem dX9_greatestWeight_72 : decode cX9_greatestWeight 72 = .ok (.ireturn, 1) := @dq_o172 cX9_greatestWeight 72 (qX9_greatestWeight_4 8 172 rfl)
abbrev qaX9_termsInBothRows_0 : List Nat := [3, 60, 3, 61, 28, 42, 180, 0, 9, 162, 0, 29, 27, 42, 180, 0]
abbrev qaX9_termsInBothRows_1 : List Nat := [15, 28, 46, 184, 0, 48, 153, 0, 7, 4, 167, 0, 4, 3, 96, 60]
abbrev qaX9_termsInBothRows_2 : List Nat := [132, 2, 1, 167, 255, 225, 27, 172]
def qtX9_termsInBothRows_3 : List Nat := []
def qtX9_termsInBothRows_2 : List Nat := qaX9_termsInBothRows_2 ++ qtX9_termsInBothRows_3
def qtX9_termsInBothRows_1 : List Nat := qaX9_termsInBothRows_1 ++ qtX9_termsInBothRows_2
def qtX9_termsInBothRows_0 : List Nat := qaX9_termsInBothRows_0 ++ qtX9_termsInBothRows_1
theorem qeX9_termsInBothRows : cX9_termsInBothRows.data.toList.map UInt8.toNat = qtX9_termsInBothRows_0 := by decide +kernel
theorem qsX9_termsInBothRows_0 : ∀ i, dqNth qtX9_termsInBothRows_0 (0 + i) = dqNth qtX9_termsInBothRows_0 i := fun i => by rw [Nat.zero_add]
theorem qsX9_termsInBothRows_1 : ∀ i, dqNth qtX9_termsInBothRows_0 (16 + i) = dqNth qtX9_termsInBothRows_1 i := dq_step qsX9_termsInBothRows_0 rfl rfl
theorem qsX9_termsInBothRows_2 : ∀ i, dqNth qtX9_termsInBothRows_0 (32 + i) = dqNth qtX9_termsInBothRows_2 i := dq_step qsX9_termsInBothRows_1 rfl rfl
theorem qX9_termsInBothRows_0 (i b : Nat) (h : dqNth qaX9_termsInBothRows_0 i = some b) : DqBy cX9_termsInBothRows (0 + i) b := dqBy_of qeX9_termsInBothRows ((qsX9_termsInBothRows_0 i).trans (dq_in h))
theorem qX9_termsInBothRows_1 (i b : Nat) (h : dqNth qaX9_termsInBothRows_1 i = some b) : DqBy cX9_termsInBothRows (16 + i) b := dqBy_of qeX9_termsInBothRows ((qsX9_termsInBothRows_1 i).trans (dq_in h))
theorem qX9_termsInBothRows_2 (i b : Nat) (h : dqNth qaX9_termsInBothRows_2 i = some b) : DqBy cX9_termsInBothRows (32 + i) b := dqBy_of qeX9_termsInBothRows ((qsX9_termsInBothRows_2 i).trans (dq_in h))
theorem dX9_termsInBothRows_0 : decode cX9_termsInBothRows 0 = .ok (.iconst 0, 1) := @dq_o3 cX9_termsInBothRows 0 (qX9_termsInBothRows_0 0 3 rfl)
theorem dX9_termsInBothRows_1 : decode cX9_termsInBothRows 1 = .ok (.istore_n 1, 1) := @dq_o60 cX9_termsInBothRows 1 (qX9_termsInBothRows_0 1 60 rfl)
theorem dX9_termsInBothRows_2 : decode cX9_termsInBothRows 2 = .ok (.iconst 0, 1) := @dq_o3 cX9_termsInBothRows 2 (qX9_termsInBothRows_0 2 3 rfl)
theorem dX9_termsInBothRows_3 : decode cX9_termsInBothRows 3 = .ok (.istore_n 2, 1) := @dq_o61 cX9_termsInBothRows 3 (qX9_termsInBothRows_0 3 61 rfl)
theorem dX9_termsInBothRows_4 : decode cX9_termsInBothRows 4 = .ok (.iload_n 2, 1) := @dq_o28 cX9_termsInBothRows 4 (qX9_termsInBothRows_0 4 28 rfl)
theorem dX9_termsInBothRows_5 : decode cX9_termsInBothRows 5 = .ok (.aload_n 0, 1) := @dq_o42 cX9_termsInBothRows 5 (qX9_termsInBothRows_0 5 42 rfl)
theorem dX9_termsInBothRows_6 : decode cX9_termsInBothRows 6 = .ok (.getfield 9, 3) := @dq_o180 cX9_termsInBothRows 6 0 9 (qX9_termsInBothRows_0 6 180 rfl) (qX9_termsInBothRows_0 7 0 rfl) (qX9_termsInBothRows_0 8 9 rfl)
theorem dX9_termsInBothRows_9 : decode cX9_termsInBothRows 9 = .ok (.if_icmp .ge 29, 3) := @dq_o162 cX9_termsInBothRows 9 0 29 (qX9_termsInBothRows_0 9 162 rfl) (qX9_termsInBothRows_0 10 0 rfl) (qX9_termsInBothRows_0 11 29 rfl)
theorem dX9_termsInBothRows_12 : decode cX9_termsInBothRows 12 = .ok (.iload_n 1, 1) := @dq_o27 cX9_termsInBothRows 12 (qX9_termsInBothRows_0 12 27 rfl)
theorem dX9_termsInBothRows_13 : decode cX9_termsInBothRows 13 = .ok (.aload_n 0, 1) := @dq_o42 cX9_termsInBothRows 13 (qX9_termsInBothRows_0 13 42 rfl)
theorem dX9_termsInBothRows_14 : decode cX9_termsInBothRows 14 = .ok (.getfield 15, 3) := @dq_o180 cX9_termsInBothRows 14 0 15 (qX9_termsInBothRows_0 14 180 rfl) (qX9_termsInBothRows_0 15 0 rfl) (qX9_termsInBothRows_1 0 15 rfl)
theorem dX9_termsInBothRows_17 : decode cX9_termsInBothRows 17 = .ok (.iload_n 2, 1) := @dq_o28 cX9_termsInBothRows 17 (qX9_termsInBothRows_1 1 28 rfl)
theorem dX9_termsInBothRows_18 : decode cX9_termsInBothRows 18 = .ok (.iaload, 1) := @dq_o46 cX9_termsInBothRows 18 (qX9_termsInBothRows_1 2 46 rfl)
theorem dX9_termsInBothRows_19 : decode cX9_termsInBothRows 19 = .ok (.invokestatic 48, 3) := @dq_o184 cX9_termsInBothRows 19 0 48 (qX9_termsInBothRows_1 3 184 rfl) (qX9_termsInBothRows_1 4 0 rfl) (qX9_termsInBothRows_1 5 48 rfl)
theorem dX9_termsInBothRows_22 : decode cX9_termsInBothRows 22 = .ok (.ifCond .eq 7, 3) := @dq_o153 cX9_termsInBothRows 22 0 7 (qX9_termsInBothRows_1 6 153 rfl) (qX9_termsInBothRows_1 7 0 rfl) (qX9_termsInBothRows_1 8 7 rfl)
theorem dX9_termsInBothRows_25 : decode cX9_termsInBothRows 25 = .ok (.iconst 1, 1) := @dq_o4 cX9_termsInBothRows 25 (qX9_termsInBothRows_1 9 4 rfl)
theorem dX9_termsInBothRows_26 : decode cX9_termsInBothRows 26 = .ok (.goto 4, 3) := @dq_o167 cX9_termsInBothRows 26 0 4 (qX9_termsInBothRows_1 10 167 rfl) (qX9_termsInBothRows_1 11 0 rfl) (qX9_termsInBothRows_1 12 4 rfl)
theorem dX9_termsInBothRows_29 : decode cX9_termsInBothRows 29 = .ok (.iconst 0, 1) := @dq_o3 cX9_termsInBothRows 29 (qX9_termsInBothRows_1 13 3 rfl)
theorem dX9_termsInBothRows_30 : decode cX9_termsInBothRows 30 = .ok (.iadd, 1) := @dq_o96 cX9_termsInBothRows 30 (qX9_termsInBothRows_1 14 96 rfl)
theorem dX9_termsInBothRows_31 : decode cX9_termsInBothRows 31 = .ok (.istore_n 1, 1) := @dq_o60 cX9_termsInBothRows 31 (qX9_termsInBothRows_1 15 60 rfl)
theorem dX9_termsInBothRows_32 : decode cX9_termsInBothRows 32 = .ok (.iinc 2 1, 3) := @dq_o132 cX9_termsInBothRows 32 2 1 (qX9_termsInBothRows_2 0 132 rfl) (qX9_termsInBothRows_2 1 2 rfl) (qX9_termsInBothRows_2 2 1 rfl)
theorem dX9_termsInBothRows_35 : decode cX9_termsInBothRows 35 = .ok (.goto (-31), 3) := @dq_o167 cX9_termsInBothRows 35 255 225 (qX9_termsInBothRows_2 3 167 rfl) (qX9_termsInBothRows_2 4 255 rfl) (qX9_termsInBothRows_2 5 225 rfl)
theorem dX9_termsInBothRows_38 : decode cX9_termsInBothRows 38 = .ok (.iload_n 1, 1) := @dq_o27 cX9_termsInBothRows 38 (qX9_termsInBothRows_2 6 27 rfl)
theorem dX9_termsInBothRows_39 : decode cX9_termsInBothRows 39 = .ok (.ireturn, 1) := @dq_o172 cX9_termsInBothRows 39 (qX9_termsInBothRows_2 7 172 rfl)
abbrev qaX9_hasBoth_0 : List Nat := [3, 60, 27, 16, 6, 162, 0, 30, 26, 27, 184, 0, 34, 158, 0, 16]
abbrev qaX9_hasBoth_1 : List Nat := [26, 16, 6, 27, 96, 184, 0, 34, 158, 0, 5, 4, 172, 132, 1, 1]
abbrev qaX9_hasBoth_2 : List Nat := [167, 255, 226, 3, 172]
def qtX9_hasBoth_3 : List Nat := []
def qtX9_hasBoth_2 : List Nat := qaX9_hasBoth_2 ++ qtX9_hasBoth_3
def qtX9_hasBoth_1 : List Nat := qaX9_hasBoth_1 ++ qtX9_hasBoth_2
def qtX9_hasBoth_0 : List Nat := qaX9_hasBoth_0 ++ qtX9_hasBoth_1
theorem qeX9_hasBoth : cX9_hasBoth.data.toList.map UInt8.toNat = qtX9_hasBoth_0 := by decide +kernel
theorem qsX9_hasBoth_0 : ∀ i, dqNth qtX9_hasBoth_0 (0 + i) = dqNth qtX9_hasBoth_0 i := fun i => by rw [Nat.zero_add]
theorem qsX9_hasBoth_1 : ∀ i, dqNth qtX9_hasBoth_0 (16 + i) = dqNth qtX9_hasBoth_1 i := dq_step qsX9_hasBoth_0 rfl rfl
theorem qsX9_hasBoth_2 : ∀ i, dqNth qtX9_hasBoth_0 (32 + i) = dqNth qtX9_hasBoth_2 i := dq_step qsX9_hasBoth_1 rfl rfl
theorem qX9_hasBoth_0 (i b : Nat) (h : dqNth qaX9_hasBoth_0 i = some b) : DqBy cX9_hasBoth (0 + i) b := dqBy_of qeX9_hasBoth ((qsX9_hasBoth_0 i).trans (dq_in h))
theorem qX9_hasBoth_1 (i b : Nat) (h : dqNth qaX9_hasBoth_1 i = some b) : DqBy cX9_hasBoth (16 + i) b := dqBy_of qeX9_hasBoth ((qsX9_hasBoth_1 i).trans (dq_in h))
theorem qX9_hasBoth_2 (i b : Nat) (h : dqNth qaX9_hasBoth_2 i = some b) : DqBy cX9_hasBoth (32 + i) b := dqBy_of qeX9_hasBoth ((qsX9_hasBoth_2 i).trans (dq_in h))
theorem dX9_hasBoth_0 : decode cX9_hasBoth 0 = .ok (.iconst 0, 1) := @dq_o3 cX9_hasBoth 0 (qX9_hasBoth_0 0 3 rfl)
theorem dX9_hasBoth_1 : decode cX9_hasBoth 1 = .ok (.istore_n 1, 1) := @dq_o60 cX9_hasBoth 1 (qX9_hasBoth_0 1 60 rfl)
theorem dX9_hasBoth_2 : decode cX9_hasBoth 2 = .ok (.iload_n 1, 1) := @dq_o27 cX9_hasBoth 2 (qX9_hasBoth_0 2 27 rfl)
theorem dX9_hasBoth_3 : decode cX9_hasBoth 3 = .ok (.bipush 6, 2) := @dq_o16 cX9_hasBoth 3 6 (qX9_hasBoth_0 3 16 rfl) (qX9_hasBoth_0 4 6 rfl)
theorem dX9_hasBoth_5 : decode cX9_hasBoth 5 = .ok (.if_icmp .ge 30, 3) := @dq_o162 cX9_hasBoth 5 0 30 (qX9_hasBoth_0 5 162 rfl) (qX9_hasBoth_0 6 0 rfl) (qX9_hasBoth_0 7 30 rfl)
theorem dX9_hasBoth_8 : decode cX9_hasBoth 8 = .ok (.iload_n 0, 1) := @dq_o26 cX9_hasBoth 8 (qX9_hasBoth_0 8 26 rfl)
theorem dX9_hasBoth_9 : decode cX9_hasBoth 9 = .ok (.iload_n 1, 1) := @dq_o27 cX9_hasBoth 9 (qX9_hasBoth_0 9 27 rfl)
theorem dX9_hasBoth_10 : decode cX9_hasBoth 10 = .ok (.invokestatic 34, 3) := @dq_o184 cX9_hasBoth 10 0 34 (qX9_hasBoth_0 10 184 rfl) (qX9_hasBoth_0 11 0 rfl) (qX9_hasBoth_0 12 34 rfl)
theorem dX9_hasBoth_13 : decode cX9_hasBoth 13 = .ok (.ifCond .le 16, 3) := @dq_o158 cX9_hasBoth 13 0 16 (qX9_hasBoth_0 13 158 rfl) (qX9_hasBoth_0 14 0 rfl) (qX9_hasBoth_0 15 16 rfl)
theorem dX9_hasBoth_16 : decode cX9_hasBoth 16 = .ok (.iload_n 0, 1) := @dq_o26 cX9_hasBoth 16 (qX9_hasBoth_1 0 26 rfl)
theorem dX9_hasBoth_17 : decode cX9_hasBoth 17 = .ok (.bipush 6, 2) := @dq_o16 cX9_hasBoth 17 6 (qX9_hasBoth_1 1 16 rfl) (qX9_hasBoth_1 2 6 rfl)
theorem dX9_hasBoth_19 : decode cX9_hasBoth 19 = .ok (.iload_n 1, 1) := @dq_o27 cX9_hasBoth 19 (qX9_hasBoth_1 3 27 rfl)
theorem dX9_hasBoth_20 : decode cX9_hasBoth 20 = .ok (.iadd, 1) := @dq_o96 cX9_hasBoth 20 (qX9_hasBoth_1 4 96 rfl)
theorem dX9_hasBoth_21 : decode cX9_hasBoth 21 = .ok (.invokestatic 34, 3) := @dq_o184 cX9_hasBoth 21 0 34 (qX9_hasBoth_1 5 184 rfl) (qX9_hasBoth_1 6 0 rfl) (qX9_hasBoth_1 7 34 rfl)
theorem dX9_hasBoth_24 : decode cX9_hasBoth 24 = .ok (.ifCond .le 5, 3) := @dq_o158 cX9_hasBoth 24 0 5 (qX9_hasBoth_1 8 158 rfl) (qX9_hasBoth_1 9 0 rfl) (qX9_hasBoth_1 10 5 rfl)
theorem dX9_hasBoth_27 : decode cX9_hasBoth 27 = .ok (.iconst 1, 1) := @dq_o4 cX9_hasBoth 27 (qX9_hasBoth_1 11 4 rfl)
theorem dX9_hasBoth_28 : decode cX9_hasBoth 28 = .ok (.ireturn, 1) := @dq_o172 cX9_hasBoth 28 (qX9_hasBoth_1 12 172 rfl)
theorem dX9_hasBoth_29 : decode cX9_hasBoth 29 = .ok (.iinc 1 1, 3) := @dq_o132 cX9_hasBoth 29 1 1 (qX9_hasBoth_1 13 132 rfl) (qX9_hasBoth_1 14 1 rfl) (qX9_hasBoth_1 15 1 rfl)
theorem dX9_hasBoth_32 : decode cX9_hasBoth 32 = .ok (.goto (-30), 3) := @dq_o167 cX9_hasBoth 32 255 226 (qX9_hasBoth_2 0 167 rfl) (qX9_hasBoth_2 1 255 rfl) (qX9_hasBoth_2 2 226 rfl)
theorem dX9_hasBoth_35 : decode cX9_hasBoth 35 = .ok (.iconst 0, 1) := @dq_o3 cX9_hasBoth 35 (qX9_hasBoth_2 3 3 rfl)
theorem dX9_hasBoth_36 : decode cX9_hasBoth 36 = .ok (.ireturn, 1) := @dq_o172 cX9_hasBoth 36 (qX9_hasBoth_2 4 172 rfl)
abbrev qaX9_sumOfNumbers_0 : List Nat := [9, 64, 3, 62, 29, 42, 180, 0, 9, 162, 0, 18, 31, 42, 180, 0]
abbrev qaX9_sumOfNumbers_1 : List Nat := [19, 29, 47, 97, 64, 132, 3, 1, 167, 255, 236, 31, 173]
def qtX9_sumOfNumbers_2 : List Nat := []
def qtX9_sumOfNumbers_1 : List Nat := qaX9_sumOfNumbers_1 ++ qtX9_sumOfNumbers_2
def qtX9_sumOfNumbers_0 : List Nat := qaX9_sumOfNumbers_0 ++ qtX9_sumOfNumbers_1
theorem qeX9_sumOfNumbers : cX9_sumOfNumbers.data.toList.map UInt8.toNat = qtX9_sumOfNumbers_0 := by decide +kernel
theorem qsX9_sumOfNumbers_0 : ∀ i, dqNth qtX9_sumOfNumbers_0 (0 + i) = dqNth qtX9_sumOfNumbers_0 i := fun i => by rw [Nat.zero_add]
theorem qsX9_sumOfNumbers_1 : ∀ i, dqNth qtX9_sumOfNumbers_0 (16 + i) = dqNth qtX9_sumOfNumbers_1 i := dq_step qsX9_sumOfNumbers_0 rfl rfl
theorem qX9_sumOfNumbers_0 (i b : Nat) (h : dqNth qaX9_sumOfNumbers_0 i = some b) : DqBy cX9_sumOfNumbers (0 + i) b := dqBy_of qeX9_sumOfNumbers ((qsX9_sumOfNumbers_0 i).trans (dq_in h))
theorem qX9_sumOfNumbers_1 (i b : Nat) (h : dqNth qaX9_sumOfNumbers_1 i = some b) : DqBy cX9_sumOfNumbers (16 + i) b := dqBy_of qeX9_sumOfNumbers ((qsX9_sumOfNumbers_1 i).trans (dq_in h))
theorem dX9_sumOfNumbers_0 : decode cX9_sumOfNumbers 0 = .ok (.lconst 0, 1) := @dq_o9 cX9_sumOfNumbers 0 (qX9_sumOfNumbers_0 0 9 rfl)
theorem dX9_sumOfNumbers_1 : decode cX9_sumOfNumbers 1 = .ok (.lstore_n 1, 1) := @dq_o64 cX9_sumOfNumbers 1 (qX9_sumOfNumbers_0 1 64 rfl)
theorem dX9_sumOfNumbers_2 : decode cX9_sumOfNumbers 2 = .ok (.iconst 0, 1) := @dq_o3 cX9_sumOfNumbers 2 (qX9_sumOfNumbers_0 2 3 rfl)
theorem dX9_sumOfNumbers_3 : decode cX9_sumOfNumbers 3 = .ok (.istore_n 3, 1) := @dq_o62 cX9_sumOfNumbers 3 (qX9_sumOfNumbers_0 3 62 rfl)
theorem dX9_sumOfNumbers_4 : decode cX9_sumOfNumbers 4 = .ok (.iload_n 3, 1) := @dq_o29 cX9_sumOfNumbers 4 (qX9_sumOfNumbers_0 4 29 rfl)
theorem dX9_sumOfNumbers_5 : decode cX9_sumOfNumbers 5 = .ok (.aload_n 0, 1) := @dq_o42 cX9_sumOfNumbers 5 (qX9_sumOfNumbers_0 5 42 rfl)
theorem dX9_sumOfNumbers_6 : decode cX9_sumOfNumbers 6 = .ok (.getfield 9, 3) := @dq_o180 cX9_sumOfNumbers 6 0 9 (qX9_sumOfNumbers_0 6 180 rfl) (qX9_sumOfNumbers_0 7 0 rfl) (qX9_sumOfNumbers_0 8 9 rfl)
theorem dX9_sumOfNumbers_9 : decode cX9_sumOfNumbers 9 = .ok (.if_icmp .ge 18, 3) := @dq_o162 cX9_sumOfNumbers 9 0 18 (qX9_sumOfNumbers_0 9 162 rfl) (qX9_sumOfNumbers_0 10 0 rfl) (qX9_sumOfNumbers_0 11 18 rfl)
theorem dX9_sumOfNumbers_12 : decode cX9_sumOfNumbers 12 = .ok (.lload_n 1, 1) := @dq_o31 cX9_sumOfNumbers 12 (qX9_sumOfNumbers_0 12 31 rfl)
theorem dX9_sumOfNumbers_13 : decode cX9_sumOfNumbers 13 = .ok (.aload_n 0, 1) := @dq_o42 cX9_sumOfNumbers 13 (qX9_sumOfNumbers_0 13 42 rfl)
theorem dX9_sumOfNumbers_14 : decode cX9_sumOfNumbers 14 = .ok (.getfield 19, 3) := @dq_o180 cX9_sumOfNumbers 14 0 19 (qX9_sumOfNumbers_0 14 180 rfl) (qX9_sumOfNumbers_0 15 0 rfl) (qX9_sumOfNumbers_1 0 19 rfl)
theorem dX9_sumOfNumbers_17 : decode cX9_sumOfNumbers 17 = .ok (.iload_n 3, 1) := @dq_o29 cX9_sumOfNumbers 17 (qX9_sumOfNumbers_1 1 29 rfl)
theorem dX9_sumOfNumbers_18 : decode cX9_sumOfNumbers 18 = .ok (.laload, 1) := @dq_o47 cX9_sumOfNumbers 18 (qX9_sumOfNumbers_1 2 47 rfl)
theorem dX9_sumOfNumbers_19 : decode cX9_sumOfNumbers 19 = .ok (.ladd, 1) := @dq_o97 cX9_sumOfNumbers 19 (qX9_sumOfNumbers_1 3 97 rfl)
theorem dX9_sumOfNumbers_20 : decode cX9_sumOfNumbers 20 = .ok (.lstore_n 1, 1) := @dq_o64 cX9_sumOfNumbers 20 (qX9_sumOfNumbers_1 4 64 rfl)
theorem dX9_sumOfNumbers_21 : decode cX9_sumOfNumbers 21 = .ok (.iinc 3 1, 3) := @dq_o132 cX9_sumOfNumbers 21 3 1 (qX9_sumOfNumbers_1 5 132 rfl) (qX9_sumOfNumbers_1 6 3 rfl) (qX9_sumOfNumbers_1 7 1 rfl)
theorem dX9_sumOfNumbers_24 : decode cX9_sumOfNumbers 24 = .ok (.goto (-20), 3) := @dq_o167 cX9_sumOfNumbers 24 255 236 (qX9_sumOfNumbers_1 8 167 rfl) (qX9_sumOfNumbers_1 9 255 rfl) (qX9_sumOfNumbers_1 10 236 rfl)
theorem dX9_sumOfNumbers_27 : decode cX9_sumOfNumbers 27 = .ok (.lload_n 1, 1) := @dq_o31 cX9_sumOfNumbers 27 (qX9_sumOfNumbers_1 11 31 rfl)
theorem dX9_sumOfNumbers_28 : decode cX9_sumOfNumbers 28 = .ok (.lreturn, 1) := @dq_o173 cX9_sumOfNumbers 28 (qX9_sumOfNumbers_1 12 173 rfl)
abbrev qaX10_init_0 : List Nat := [42, 183, 0, 3, 42, 187, 0, 9, 89, 183, 0, 11, 181, 0, 12, 42]
abbrev qaX10_init_1 : List Nat := [187, 0, 9, 89, 183, 0, 11, 181, 0, 16, 42, 3, 181, 0, 19, 42]
abbrev qaX10_init_2 : List Nat := [16, 8, 189, 0, 9, 181, 0, 23, 42, 3, 181, 0, 27, 42, 3, 181]
abbrev qaX10_init_3 : List Nat := [0, 31, 42, 17, 0, 200, 188, 10, 181, 0, 34, 42, 3, 181, 0, 38]
abbrev qaX10_init_4 : List Nat := [42, 187, 0, 41, 89, 183, 0, 43, 181, 0, 44, 42, 187, 0, 48, 89]
abbrev qaX10_init_5 : List Nat := [42, 180, 0, 44, 183, 0, 50, 181, 0, 53, 42, 187, 0, 57, 89, 42]
abbrev qaX10_init_6 : List Nat := [180, 0, 53, 183, 0, 59, 181, 0, 62, 42, 187, 0, 66, 89, 42, 180]
abbrev qaX10_init_7 : List Nat := [0, 53, 183, 0, 68, 181, 0, 69, 42, 187, 0, 73, 89, 42, 180, 0]
abbrev qaX10_init_8 : List Nat := [53, 42, 180, 0, 62, 183, 0, 75, 181, 0, 78, 42, 187, 0, 82, 89]
abbrev qaX10_init_9 : List Nat := [183, 0, 84, 181, 0, 85, 42, 187, 0, 89, 89, 42, 180, 0, 12, 42]
abbrev qaX10_init_10 : List Nat := [180, 0, 62, 183, 0, 91, 181, 0, 94, 42, 16, 6, 188, 11, 181, 0]
abbrev qaX10_init_11 : List Nat := [98, 42, 16, 6, 188, 11, 181, 0, 102, 3, 60, 27, 16, 8, 162, 0]
abbrev qaX10_init_12 : List Nat := [22, 42, 180, 0, 23, 27, 187, 0, 9, 89, 183, 0, 11, 83, 132, 1]
abbrev qaX10_init_13 : List Nat := [1, 167, 255, 234, 42, 180, 0, 12, 180, 0, 105, 3, 182, 0, 109, 42]
abbrev qaX10_init_14 : List Nat := [180, 0, 53, 42, 180, 0, 12, 180, 0, 105, 182, 0, 115, 177]
def qtX10_init_15 : List Nat := []
def qtX10_init_14 : List Nat := qaX10_init_14 ++ qtX10_init_15
def qtX10_init_13 : List Nat := qaX10_init_13 ++ qtX10_init_14
def qtX10_init_12 : List Nat := qaX10_init_12 ++ qtX10_init_13
def qtX10_init_11 : List Nat := qaX10_init_11 ++ qtX10_init_12
def qtX10_init_10 : List Nat := qaX10_init_10 ++ qtX10_init_11
def qtX10_init_9 : List Nat := qaX10_init_9 ++ qtX10_init_10
def qtX10_init_8 : List Nat := qaX10_init_8 ++ qtX10_init_9
def qtX10_init_7 : List Nat := qaX10_init_7 ++ qtX10_init_8
def qtX10_init_6 : List Nat := qaX10_init_6 ++ qtX10_init_7
def qtX10_init_5 : List Nat := qaX10_init_5 ++ qtX10_init_6
def qtX10_init_4 : List Nat := qaX10_init_4 ++ qtX10_init_5
def qtX10_init_3 : List Nat := qaX10_init_3 ++ qtX10_init_4
def qtX10_init_2 : List Nat := qaX10_init_2 ++ qtX10_init_3
def qtX10_init_1 : List Nat := qaX10_init_1 ++ qtX10_init_2
def qtX10_init_0 : List Nat := qaX10_init_0 ++ qtX10_init_1
theorem qeX10_init : cX10_init.data.toList.map UInt8.toNat = qtX10_init_0 := by decide +kernel
theorem qsX10_init_0 : ∀ i, dqNth qtX10_init_0 (0 + i) = dqNth qtX10_init_0 i := fun i => by rw [Nat.zero_add]
theorem qsX10_init_1 : ∀ i, dqNth qtX10_init_0 (16 + i) = dqNth qtX10_init_1 i := dq_step qsX10_init_0 rfl rfl
theorem qsX10_init_2 : ∀ i, dqNth qtX10_init_0 (32 + i) = dqNth qtX10_init_2 i := dq_step qsX10_init_1 rfl rfl
theorem qsX10_init_3 : ∀ i, dqNth qtX10_init_0 (48 + i) = dqNth qtX10_init_3 i := dq_step qsX10_init_2 rfl rfl
theorem qsX10_init_4 : ∀ i, dqNth qtX10_init_0 (64 + i) = dqNth qtX10_init_4 i := dq_step qsX10_init_3 rfl rfl
theorem qsX10_init_5 : ∀ i, dqNth qtX10_init_0 (80 + i) = dqNth qtX10_init_5 i := dq_step qsX10_init_4 rfl rfl
theorem qsX10_init_6 : ∀ i, dqNth qtX10_init_0 (96 + i) = dqNth qtX10_init_6 i := dq_step qsX10_init_5 rfl rfl
theorem qsX10_init_7 : ∀ i, dqNth qtX10_init_0 (112 + i) = dqNth qtX10_init_7 i := dq_step qsX10_init_6 rfl rfl
theorem qsX10_init_8 : ∀ i, dqNth qtX10_init_0 (128 + i) = dqNth qtX10_init_8 i := dq_step qsX10_init_7 rfl rfl
theorem qsX10_init_9 : ∀ i, dqNth qtX10_init_0 (144 + i) = dqNth qtX10_init_9 i := dq_step qsX10_init_8 rfl rfl
theorem qsX10_init_10 : ∀ i, dqNth qtX10_init_0 (160 + i) = dqNth qtX10_init_10 i := dq_step qsX10_init_9 rfl rfl
theorem qsX10_init_11 : ∀ i, dqNth qtX10_init_0 (176 + i) = dqNth qtX10_init_11 i := dq_step qsX10_init_10 rfl rfl
theorem qsX10_init_12 : ∀ i, dqNth qtX10_init_0 (192 + i) = dqNth qtX10_init_12 i := dq_step qsX10_init_11 rfl rfl
theorem qsX10_init_13 : ∀ i, dqNth qtX10_init_0 (208 + i) = dqNth qtX10_init_13 i := dq_step qsX10_init_12 rfl rfl
theorem qsX10_init_14 : ∀ i, dqNth qtX10_init_0 (224 + i) = dqNth qtX10_init_14 i := dq_step qsX10_init_13 rfl rfl
theorem qX10_init_0 (i b : Nat) (h : dqNth qaX10_init_0 i = some b) : DqBy cX10_init (0 + i) b := dqBy_of qeX10_init ((qsX10_init_0 i).trans (dq_in h))
theorem qX10_init_1 (i b : Nat) (h : dqNth qaX10_init_1 i = some b) : DqBy cX10_init (16 + i) b := dqBy_of qeX10_init ((qsX10_init_1 i).trans (dq_in h))
theorem qX10_init_2 (i b : Nat) (h : dqNth qaX10_init_2 i = some b) : DqBy cX10_init (32 + i) b := dqBy_of qeX10_init ((qsX10_init_2 i).trans (dq_in h))
theorem qX10_init_3 (i b : Nat) (h : dqNth qaX10_init_3 i = some b) : DqBy cX10_init (48 + i) b := dqBy_of qeX10_init ((qsX10_init_3 i).trans (dq_in h))
theorem qX10_init_4 (i b : Nat) (h : dqNth qaX10_init_4 i = some b) : DqBy cX10_init (64 + i) b := dqBy_of qeX10_init ((qsX10_init_4 i).trans (dq_in h))
theorem qX10_init_5 (i b : Nat) (h : dqNth qaX10_init_5 i = some b) : DqBy cX10_init (80 + i) b := dqBy_of qeX10_init ((qsX10_init_5 i).trans (dq_in h))
theorem qX10_init_6 (i b : Nat) (h : dqNth qaX10_init_6 i = some b) : DqBy cX10_init (96 + i) b := dqBy_of qeX10_init ((qsX10_init_6 i).trans (dq_in h))
theorem qX10_init_7 (i b : Nat) (h : dqNth qaX10_init_7 i = some b) : DqBy cX10_init (112 + i) b := dqBy_of qeX10_init ((qsX10_init_7 i).trans (dq_in h))
theorem qX10_init_8 (i b : Nat) (h : dqNth qaX10_init_8 i = some b) : DqBy cX10_init (128 + i) b := dqBy_of qeX10_init ((qsX10_init_8 i).trans (dq_in h))
theorem qX10_init_9 (i b : Nat) (h : dqNth qaX10_init_9 i = some b) : DqBy cX10_init (144 + i) b := dqBy_of qeX10_init ((qsX10_init_9 i).trans (dq_in h))
theorem qX10_init_10 (i b : Nat) (h : dqNth qaX10_init_10 i = some b) : DqBy cX10_init (160 + i) b := dqBy_of qeX10_init ((qsX10_init_10 i).trans (dq_in h))
theorem qX10_init_11 (i b : Nat) (h : dqNth qaX10_init_11 i = some b) : DqBy cX10_init (176 + i) b := dqBy_of qeX10_init ((qsX10_init_11 i).trans (dq_in h))
theorem qX10_init_12 (i b : Nat) (h : dqNth qaX10_init_12 i = some b) : DqBy cX10_init (192 + i) b := dqBy_of qeX10_init ((qsX10_init_12 i).trans (dq_in h))
theorem qX10_init_13 (i b : Nat) (h : dqNth qaX10_init_13 i = some b) : DqBy cX10_init (208 + i) b := dqBy_of qeX10_init ((qsX10_init_13 i).trans (dq_in h))
theorem qX10_init_14 (i b : Nat) (h : dqNth qaX10_init_14 i = some b) : DqBy cX10_init (224 + i) b := dqBy_of qeX10_init ((qsX10_init_14 i).trans (dq_in h))
theorem dX10_init_0 : decode cX10_init 0 = .ok (.aload_n 0, 1) := @dq_o42 cX10_init 0 (qX10_init_0 0 42 rfl)
theorem dX10_init_1 : decode cX10_init 1 = .ok (.invokespecial 3, 3) := @dq_o183 cX10_init 1 0 3 (qX10_init_0 1 183 rfl) (qX10_init_0 2 0 rfl) (qX10_init_0 3 3 rfl)
theorem dX10_init_4 : decode cX10_init 4 = .ok (.aload_n 0, 1) := @dq_o42 cX10_init 4 (qX10_init_0 4 42 rfl)
theorem dX10_init_5 : decode cX10_init 5 = .ok (.new 9, 3) := @dq_o187 cX10_init 5 0 9 (qX10_init_0 5 187 rfl) (qX10_init_0 6 0 rfl) (qX10_init_0 7 9 rfl)
theorem dX10_init_8 : decode cX10_init 8 = .ok (.dup, 1) := @dq_o89 cX10_init 8 (qX10_init_0 8 89 rfl)
theorem dX10_init_9 : decode cX10_init 9 = .ok (.invokespecial 11, 3) := @dq_o183 cX10_init 9 0 11 (qX10_init_0 9 183 rfl) (qX10_init_0 10 0 rfl) (qX10_init_0 11 11 rfl)
theorem dX10_init_12 : decode cX10_init 12 = .ok (.putfield 12, 3) := @dq_o181 cX10_init 12 0 12 (qX10_init_0 12 181 rfl) (qX10_init_0 13 0 rfl) (qX10_init_0 14 12 rfl)
theorem dX10_init_15 : decode cX10_init 15 = .ok (.aload_n 0, 1) := @dq_o42 cX10_init 15 (qX10_init_0 15 42 rfl)
theorem dX10_init_16 : decode cX10_init 16 = .ok (.new 9, 3) := @dq_o187 cX10_init 16 0 9 (qX10_init_1 0 187 rfl) (qX10_init_1 1 0 rfl) (qX10_init_1 2 9 rfl)
theorem dX10_init_19 : decode cX10_init 19 = .ok (.dup, 1) := @dq_o89 cX10_init 19 (qX10_init_1 3 89 rfl)
theorem dX10_init_20 : decode cX10_init 20 = .ok (.invokespecial 11, 3) := @dq_o183 cX10_init 20 0 11 (qX10_init_1 4 183 rfl) (qX10_init_1 5 0 rfl) (qX10_init_1 6 11 rfl)
theorem dX10_init_23 : decode cX10_init 23 = .ok (.putfield 16, 3) := @dq_o181 cX10_init 23 0 16 (qX10_init_1 7 181 rfl) (qX10_init_1 8 0 rfl) (qX10_init_1 9 16 rfl)
theorem dX10_init_26 : decode cX10_init 26 = .ok (.aload_n 0, 1) := @dq_o42 cX10_init 26 (qX10_init_1 10 42 rfl)
theorem dX10_init_27 : decode cX10_init 27 = .ok (.iconst 0, 1) := @dq_o3 cX10_init 27 (qX10_init_1 11 3 rfl)
theorem dX10_init_28 : decode cX10_init 28 = .ok (.putfield 19, 3) := @dq_o181 cX10_init 28 0 19 (qX10_init_1 12 181 rfl) (qX10_init_1 13 0 rfl) (qX10_init_1 14 19 rfl)
theorem dX10_init_31 : decode cX10_init 31 = .ok (.aload_n 0, 1) := @dq_o42 cX10_init 31 (qX10_init_1 15 42 rfl)
theorem dX10_init_32 : decode cX10_init 32 = .ok (.bipush 8, 2) := @dq_o16 cX10_init 32 8 (qX10_init_2 0 16 rfl) (qX10_init_2 1 8 rfl)
theorem dX10_init_34 : decode cX10_init 34 = .ok (.anewarray 9, 3) := @dq_o189 cX10_init 34 0 9 (qX10_init_2 2 189 rfl) (qX10_init_2 3 0 rfl) (qX10_init_2 4 9 rfl)
theorem dX10_init_37 : decode cX10_init 37 = .ok (.putfield 23, 3) := @dq_o181 cX10_init 37 0 23 (qX10_init_2 5 181 rfl) (qX10_init_2 6 0 rfl) (qX10_init_2 7 23 rfl)
theorem dX10_init_40 : decode cX10_init 40 = .ok (.aload_n 0, 1) := @dq_o42 cX10_init 40 (qX10_init_2 8 42 rfl)
theorem dX10_init_41 : decode cX10_init 41 = .ok (.iconst 0, 1) := @dq_o3 cX10_init 41 (qX10_init_2 9 3 rfl)
theorem dX10_init_42 : decode cX10_init 42 = .ok (.putfield 27, 3) := @dq_o181 cX10_init 42 0 27 (qX10_init_2 10 181 rfl) (qX10_init_2 11 0 rfl) (qX10_init_2 12 27 rfl)
theorem dX10_init_45 : decode cX10_init 45 = .ok (.aload_n 0, 1) := @dq_o42 cX10_init 45 (qX10_init_2 13 42 rfl)
theorem dX10_init_46 : decode cX10_init 46 = .ok (.iconst 0, 1) := @dq_o3 cX10_init 46 (qX10_init_2 14 3 rfl)
theorem dX10_init_47 : decode cX10_init 47 = .ok (.putfield 31, 3) := @dq_o181 cX10_init 47 0 31 (qX10_init_2 15 181 rfl) (qX10_init_3 0 0 rfl) (qX10_init_3 1 31 rfl)
theorem dX10_init_50 : decode cX10_init 50 = .ok (.aload_n 0, 1) := @dq_o42 cX10_init 50 (qX10_init_3 2 42 rfl)
theorem dX10_init_51 : decode cX10_init 51 = .ok (.sipush 200, 3) := @dq_o17 cX10_init 51 0 200 (qX10_init_3 3 17 rfl) (qX10_init_3 4 0 rfl) (qX10_init_3 5 200 rfl)
theorem dX10_init_54 : decode cX10_init 54 = .ok (.newarray .int, 2) := by decide +kernel
theorem dX10_init_56 : decode cX10_init 56 = .ok (.putfield 34, 3) := @dq_o181 cX10_init 56 0 34 (qX10_init_3 8 181 rfl) (qX10_init_3 9 0 rfl) (qX10_init_3 10 34 rfl)
theorem dX10_init_59 : decode cX10_init 59 = .ok (.aload_n 0, 1) := @dq_o42 cX10_init 59 (qX10_init_3 11 42 rfl)
theorem dX10_init_60 : decode cX10_init 60 = .ok (.iconst 0, 1) := @dq_o3 cX10_init 60 (qX10_init_3 12 3 rfl)
theorem dX10_init_61 : decode cX10_init 61 = .ok (.putfield 38, 3) := @dq_o181 cX10_init 61 0 38 (qX10_init_3 13 181 rfl) (qX10_init_3 14 0 rfl) (qX10_init_3 15 38 rfl)
theorem dX10_init_64 : decode cX10_init 64 = .ok (.aload_n 0, 1) := @dq_o42 cX10_init 64 (qX10_init_4 0 42 rfl)
theorem dX10_init_65 : decode cX10_init 65 = .ok (.new 41, 3) := @dq_o187 cX10_init 65 0 41 (qX10_init_4 1 187 rfl) (qX10_init_4 2 0 rfl) (qX10_init_4 3 41 rfl)
theorem dX10_init_68 : decode cX10_init 68 = .ok (.dup, 1) := @dq_o89 cX10_init 68 (qX10_init_4 4 89 rfl)
theorem dX10_init_69 : decode cX10_init 69 = .ok (.invokespecial 43, 3) := @dq_o183 cX10_init 69 0 43 (qX10_init_4 5 183 rfl) (qX10_init_4 6 0 rfl) (qX10_init_4 7 43 rfl)
theorem dX10_init_72 : decode cX10_init 72 = .ok (.putfield 44, 3) := @dq_o181 cX10_init 72 0 44 (qX10_init_4 8 181 rfl) (qX10_init_4 9 0 rfl) (qX10_init_4 10 44 rfl)
theorem dX10_init_75 : decode cX10_init 75 = .ok (.aload_n 0, 1) := @dq_o42 cX10_init 75 (qX10_init_4 11 42 rfl)
theorem dX10_init_76 : decode cX10_init 76 = .ok (.new 48, 3) := @dq_o187 cX10_init 76 0 48 (qX10_init_4 12 187 rfl) (qX10_init_4 13 0 rfl) (qX10_init_4 14 48 rfl)
theorem dX10_init_79 : decode cX10_init 79 = .ok (.dup, 1) := @dq_o89 cX10_init 79 (qX10_init_4 15 89 rfl)
theorem dX10_init_80 : decode cX10_init 80 = .ok (.aload_n 0, 1) := @dq_o42 cX10_init 80 (qX10_init_5 0 42 rfl)
theorem dX10_init_81 : decode cX10_init 81 = .ok (.getfield 44, 3) := @dq_o180 cX10_init 81 0 44 (qX10_init_5 1 180 rfl) (qX10_init_5 2 0 rfl) (qX10_init_5 3 44 rfl)
theorem dX10_init_84 : decode cX10_init 84 = .ok (.invokespecial 50, 3) := @dq_o183 cX10_init 84 0 50 (qX10_init_5 4 183 rfl) (qX10_init_5 5 0 rfl) (qX10_init_5 6 50 rfl)
theorem dX10_init_87 : decode cX10_init 87 = .ok (.putfield 53, 3) := @dq_o181 cX10_init 87 0 53 (qX10_init_5 7 181 rfl) (qX10_init_5 8 0 rfl) (qX10_init_5 9 53 rfl)
theorem dX10_init_90 : decode cX10_init 90 = .ok (.aload_n 0, 1) := @dq_o42 cX10_init 90 (qX10_init_5 10 42 rfl)
theorem dX10_init_91 : decode cX10_init 91 = .ok (.new 57, 3) := @dq_o187 cX10_init 91 0 57 (qX10_init_5 11 187 rfl) (qX10_init_5 12 0 rfl) (qX10_init_5 13 57 rfl)
theorem dX10_init_94 : decode cX10_init 94 = .ok (.dup, 1) := @dq_o89 cX10_init 94 (qX10_init_5 14 89 rfl)
theorem dX10_init_95 : decode cX10_init 95 = .ok (.aload_n 0, 1) := @dq_o42 cX10_init 95 (qX10_init_5 15 42 rfl)
theorem dX10_init_96 : decode cX10_init 96 = .ok (.getfield 53, 3) := @dq_o180 cX10_init 96 0 53 (qX10_init_6 0 180 rfl) (qX10_init_6 1 0 rfl) (qX10_init_6 2 53 rfl)
theorem dX10_init_99 : decode cX10_init 99 = .ok (.invokespecial 59, 3) := @dq_o183 cX10_init 99 0 59 (qX10_init_6 3 183 rfl) (qX10_init_6 4 0 rfl) (qX10_init_6 5 59 rfl)
theorem dX10_init_102 : decode cX10_init 102 = .ok (.putfield 62, 3) := @dq_o181 cX10_init 102 0 62 (qX10_init_6 6 181 rfl) (qX10_init_6 7 0 rfl) (qX10_init_6 8 62 rfl)
theorem dX10_init_105 : decode cX10_init 105 = .ok (.aload_n 0, 1) := @dq_o42 cX10_init 105 (qX10_init_6 9 42 rfl)
theorem dX10_init_106 : decode cX10_init 106 = .ok (.new 66, 3) := @dq_o187 cX10_init 106 0 66 (qX10_init_6 10 187 rfl) (qX10_init_6 11 0 rfl) (qX10_init_6 12 66 rfl)
theorem dX10_init_109 : decode cX10_init 109 = .ok (.dup, 1) := @dq_o89 cX10_init 109 (qX10_init_6 13 89 rfl)
theorem dX10_init_110 : decode cX10_init 110 = .ok (.aload_n 0, 1) := @dq_o42 cX10_init 110 (qX10_init_6 14 42 rfl)
theorem dX10_init_111 : decode cX10_init 111 = .ok (.getfield 53, 3) := @dq_o180 cX10_init 111 0 53 (qX10_init_6 15 180 rfl) (qX10_init_7 0 0 rfl) (qX10_init_7 1 53 rfl)
theorem dX10_init_114 : decode cX10_init 114 = .ok (.invokespecial 68, 3) := @dq_o183 cX10_init 114 0 68 (qX10_init_7 2 183 rfl) (qX10_init_7 3 0 rfl) (qX10_init_7 4 68 rfl)
theorem dX10_init_117 : decode cX10_init 117 = .ok (.putfield 69, 3) := @dq_o181 cX10_init 117 0 69 (qX10_init_7 5 181 rfl) (qX10_init_7 6 0 rfl) (qX10_init_7 7 69 rfl)
theorem dX10_init_120 : decode cX10_init 120 = .ok (.aload_n 0, 1) := @dq_o42 cX10_init 120 (qX10_init_7 8 42 rfl)
theorem dX10_init_121 : decode cX10_init 121 = .ok (.new 73, 3) := @dq_o187 cX10_init 121 0 73 (qX10_init_7 9 187 rfl) (qX10_init_7 10 0 rfl) (qX10_init_7 11 73 rfl)
theorem dX10_init_124 : decode cX10_init 124 = .ok (.dup, 1) := @dq_o89 cX10_init 124 (qX10_init_7 12 89 rfl)
theorem dX10_init_125 : decode cX10_init 125 = .ok (.aload_n 0, 1) := @dq_o42 cX10_init 125 (qX10_init_7 13 42 rfl)
theorem dX10_init_126 : decode cX10_init 126 = .ok (.getfield 53, 3) := @dq_o180 cX10_init 126 0 53 (qX10_init_7 14 180 rfl) (qX10_init_7 15 0 rfl) (qX10_init_8 0 53 rfl)
theorem dX10_init_129 : decode cX10_init 129 = .ok (.aload_n 0, 1) := @dq_o42 cX10_init 129 (qX10_init_8 1 42 rfl)
theorem dX10_init_130 : decode cX10_init 130 = .ok (.getfield 62, 3) := @dq_o180 cX10_init 130 0 62 (qX10_init_8 2 180 rfl) (qX10_init_8 3 0 rfl) (qX10_init_8 4 62 rfl)
theorem dX10_init_133 : decode cX10_init 133 = .ok (.invokespecial 75, 3) := @dq_o183 cX10_init 133 0 75 (qX10_init_8 5 183 rfl) (qX10_init_8 6 0 rfl) (qX10_init_8 7 75 rfl)
theorem dX10_init_136 : decode cX10_init 136 = .ok (.putfield 78, 3) := @dq_o181 cX10_init 136 0 78 (qX10_init_8 8 181 rfl) (qX10_init_8 9 0 rfl) (qX10_init_8 10 78 rfl)
theorem dX10_init_139 : decode cX10_init 139 = .ok (.aload_n 0, 1) := @dq_o42 cX10_init 139 (qX10_init_8 11 42 rfl)
theorem dX10_init_140 : decode cX10_init 140 = .ok (.new 82, 3) := @dq_o187 cX10_init 140 0 82 (qX10_init_8 12 187 rfl) (qX10_init_8 13 0 rfl) (qX10_init_8 14 82 rfl)
theorem dX10_init_143 : decode cX10_init 143 = .ok (.dup, 1) := @dq_o89 cX10_init 143 (qX10_init_8 15 89 rfl)
theorem dX10_init_144 : decode cX10_init 144 = .ok (.invokespecial 84, 3) := @dq_o183 cX10_init 144 0 84 (qX10_init_9 0 183 rfl) (qX10_init_9 1 0 rfl) (qX10_init_9 2 84 rfl)
theorem dX10_init_147 : decode cX10_init 147 = .ok (.putfield 85, 3) := @dq_o181 cX10_init 147 0 85 (qX10_init_9 3 181 rfl) (qX10_init_9 4 0 rfl) (qX10_init_9 5 85 rfl)
theorem dX10_init_150 : decode cX10_init 150 = .ok (.aload_n 0, 1) := @dq_o42 cX10_init 150 (qX10_init_9 6 42 rfl)
theorem dX10_init_151 : decode cX10_init 151 = .ok (.new 89, 3) := @dq_o187 cX10_init 151 0 89 (qX10_init_9 7 187 rfl) (qX10_init_9 8 0 rfl) (qX10_init_9 9 89 rfl)
theorem dX10_init_154 : decode cX10_init 154 = .ok (.dup, 1) := @dq_o89 cX10_init 154 (qX10_init_9 10 89 rfl)
theorem dX10_init_155 : decode cX10_init 155 = .ok (.aload_n 0, 1) := @dq_o42 cX10_init 155 (qX10_init_9 11 42 rfl)
theorem dX10_init_156 : decode cX10_init 156 = .ok (.getfield 12, 3) := @dq_o180 cX10_init 156 0 12 (qX10_init_9 12 180 rfl) (qX10_init_9 13 0 rfl) (qX10_init_9 14 12 rfl)
theorem dX10_init_159 : decode cX10_init 159 = .ok (.aload_n 0, 1) := @dq_o42 cX10_init 159 (qX10_init_9 15 42 rfl)
theorem dX10_init_160 : decode cX10_init 160 = .ok (.getfield 62, 3) := @dq_o180 cX10_init 160 0 62 (qX10_init_10 0 180 rfl) (qX10_init_10 1 0 rfl) (qX10_init_10 2 62 rfl)
theorem dX10_init_163 : decode cX10_init 163 = .ok (.invokespecial 91, 3) := @dq_o183 cX10_init 163 0 91 (qX10_init_10 3 183 rfl) (qX10_init_10 4 0 rfl) (qX10_init_10 5 91 rfl)
theorem dX10_init_166 : decode cX10_init 166 = .ok (.putfield 94, 3) := @dq_o181 cX10_init 166 0 94 (qX10_init_10 6 181 rfl) (qX10_init_10 7 0 rfl) (qX10_init_10 8 94 rfl)
theorem dX10_init_169 : decode cX10_init 169 = .ok (.aload_n 0, 1) := @dq_o42 cX10_init 169 (qX10_init_10 9 42 rfl)
theorem dX10_init_170 : decode cX10_init 170 = .ok (.bipush 6, 2) := @dq_o16 cX10_init 170 6 (qX10_init_10 10 16 rfl) (qX10_init_10 11 6 rfl)
theorem dX10_init_172 : decode cX10_init 172 = .ok (.newarray .long, 2) := by decide +kernel
theorem dX10_init_174 : decode cX10_init 174 = .ok (.putfield 98, 3) := @dq_o181 cX10_init 174 0 98 (qX10_init_10 14 181 rfl) (qX10_init_10 15 0 rfl) (qX10_init_11 0 98 rfl)
theorem dX10_init_177 : decode cX10_init 177 = .ok (.aload_n 0, 1) := @dq_o42 cX10_init 177 (qX10_init_11 1 42 rfl)
theorem dX10_init_178 : decode cX10_init 178 = .ok (.bipush 6, 2) := @dq_o16 cX10_init 178 6 (qX10_init_11 2 16 rfl) (qX10_init_11 3 6 rfl)
theorem dX10_init_180 : decode cX10_init 180 = .ok (.newarray .long, 2) := by decide +kernel
theorem dX10_init_182 : decode cX10_init 182 = .ok (.putfield 102, 3) := @dq_o181 cX10_init 182 0 102 (qX10_init_11 6 181 rfl) (qX10_init_11 7 0 rfl) (qX10_init_11 8 102 rfl)
theorem dX10_init_185 : decode cX10_init 185 = .ok (.iconst 0, 1) := @dq_o3 cX10_init 185 (qX10_init_11 9 3 rfl)
theorem dX10_init_186 : decode cX10_init 186 = .ok (.istore_n 1, 1) := @dq_o60 cX10_init 186 (qX10_init_11 10 60 rfl)
theorem dX10_init_187 : decode cX10_init 187 = .ok (.iload_n 1, 1) := @dq_o27 cX10_init 187 (qX10_init_11 11 27 rfl)
theorem dX10_init_188 : decode cX10_init 188 = .ok (.bipush 8, 2) := @dq_o16 cX10_init 188 8 (qX10_init_11 12 16 rfl) (qX10_init_11 13 8 rfl)
theorem dX10_init_190 : decode cX10_init 190 = .ok (.if_icmp .ge 22, 3) := @dq_o162 cX10_init 190 0 22 (qX10_init_11 14 162 rfl) (qX10_init_11 15 0 rfl) (qX10_init_12 0 22 rfl)
theorem dX10_init_193 : decode cX10_init 193 = .ok (.aload_n 0, 1) := @dq_o42 cX10_init 193 (qX10_init_12 1 42 rfl)
theorem dX10_init_194 : decode cX10_init 194 = .ok (.getfield 23, 3) := @dq_o180 cX10_init 194 0 23 (qX10_init_12 2 180 rfl) (qX10_init_12 3 0 rfl) (qX10_init_12 4 23 rfl)
theorem dX10_init_197 : decode cX10_init 197 = .ok (.iload_n 1, 1) := @dq_o27 cX10_init 197 (qX10_init_12 5 27 rfl)
theorem dX10_init_198 : decode cX10_init 198 = .ok (.new 9, 3) := @dq_o187 cX10_init 198 0 9 (qX10_init_12 6 187 rfl) (qX10_init_12 7 0 rfl) (qX10_init_12 8 9 rfl)
theorem dX10_init_201 : decode cX10_init 201 = .ok (.dup, 1) := @dq_o89 cX10_init 201 (qX10_init_12 9 89 rfl)
theorem dX10_init_202 : decode cX10_init 202 = .ok (.invokespecial 11, 3) := @dq_o183 cX10_init 202 0 11 (qX10_init_12 10 183 rfl) (qX10_init_12 11 0 rfl) (qX10_init_12 12 11 rfl)
theorem dX10_init_205 : decode cX10_init 205 = .ok (.aastore, 1) := @dq_o83 cX10_init 205 (qX10_init_12 13 83 rfl)
theorem dX10_init_206 : decode cX10_init 206 = .ok (.iinc 1 1, 3) := @dq_o132 cX10_init 206 1 1 (qX10_init_12 14 132 rfl) (qX10_init_12 15 1 rfl) (qX10_init_13 0 1 rfl)
theorem dX10_init_209 : decode cX10_init 209 = .ok (.goto (-22), 3) := @dq_o167 cX10_init 209 255 234 (qX10_init_13 1 167 rfl) (qX10_init_13 2 255 rfl) (qX10_init_13 3 234 rfl)
theorem dX10_init_212 : decode cX10_init 212 = .ok (.aload_n 0, 1) := @dq_o42 cX10_init 212 (qX10_init_13 4 42 rfl)
theorem dX10_init_213 : decode cX10_init 213 = .ok (.getfield 12, 3) := @dq_o180 cX10_init 213 0 12 (qX10_init_13 5 180 rfl) (qX10_init_13 6 0 rfl) (qX10_init_13 7 12 rfl)
theorem dX10_init_216 : decode cX10_init 216 = .ok (.getfield 105, 3) := @dq_o180 cX10_init 216 0 105 (qX10_init_13 8 180 rfl) (qX10_init_13 9 0 rfl) (qX10_init_13 10 105 rfl)
theorem dX10_init_219 : decode cX10_init 219 = .ok (.iconst 0, 1) := @dq_o3 cX10_init 219 (qX10_init_13 11 3 rfl)
theorem dX10_init_220 : decode cX10_init 220 = .ok (.invokevirtual 109, 3) := @dq_o182 cX10_init 220 0 109 (qX10_init_13 12 182 rfl) (qX10_init_13 13 0 rfl) (qX10_init_13 14 109 rfl)
theorem dX10_init_223 : decode cX10_init 223 = .ok (.aload_n 0, 1) := @dq_o42 cX10_init 223 (qX10_init_13 15 42 rfl)
theorem dX10_init_224 : decode cX10_init 224 = .ok (.getfield 53, 3) := @dq_o180 cX10_init 224 0 53 (qX10_init_14 0 180 rfl) (qX10_init_14 1 0 rfl) (qX10_init_14 2 53 rfl)
theorem dX10_init_227 : decode cX10_init 227 = .ok (.aload_n 0, 1) := @dq_o42 cX10_init 227 (qX10_init_14 3 42 rfl)
theorem dX10_init_228 : decode cX10_init 228 = .ok (.getfield 12, 3) := @dq_o180 cX10_init 228 0 12 (qX10_init_14 4 180 rfl) (qX10_init_14 5 0 rfl) (qX10_init_14 6 12 rfl)
theorem dX10_init_231 : decode cX10_init 231 = .ok (.getfield 105, 3) := @dq_o180 cX10_init 231 0 105 (qX10_init_14 7 180 rfl) (qX10_init_14 8 0 rfl) (qX10_init_14 9 105 rfl)
theorem dX10_init_234 : decode cX10_init 234 = .ok (.invokevirtual 115, 3) := @dq_o182 cX10_init 234 0 115 (qX10_init_14 10 182 rfl) (qX10_init_14 11 0 rfl) (qX10_init_14 12 115 rfl)
theorem dX10_init_237 : decode cX10_init 237 = .ok (.return_, 1) := @dq_o177 cX10_init 237 (qX10_init_14 13 177 rfl)
abbrev qaX10_group_0 : List Nat := [27, 28, 184, 0, 119, 154, 0, 5, 3, 172, 42, 182, 0, 123, 42, 180]
abbrev qaX10_group_1 : List Nat := [0, 12, 180, 0, 105, 27, 28, 182, 0, 126, 42, 180, 0, 53, 42, 180]
abbrev qaX10_group_2 : List Nat := [0, 12, 180, 0, 105, 182, 0, 115, 4, 172]
def qtX10_group_3 : List Nat := []
def qtX10_group_2 : List Nat := qaX10_group_2 ++ qtX10_group_3
def qtX10_group_1 : List Nat := qaX10_group_1 ++ qtX10_group_2
def qtX10_group_0 : List Nat := qaX10_group_0 ++ qtX10_group_1
theorem qeX10_group : cX10_group.data.toList.map UInt8.toNat = qtX10_group_0 := by decide +kernel
theorem qsX10_group_0 : ∀ i, dqNth qtX10_group_0 (0 + i) = dqNth qtX10_group_0 i := fun i => by rw [Nat.zero_add]
theorem qsX10_group_1 : ∀ i, dqNth qtX10_group_0 (16 + i) = dqNth qtX10_group_1 i := dq_step qsX10_group_0 rfl rfl
theorem qsX10_group_2 : ∀ i, dqNth qtX10_group_0 (32 + i) = dqNth qtX10_group_2 i := dq_step qsX10_group_1 rfl rfl
theorem qX10_group_0 (i b : Nat) (h : dqNth qaX10_group_0 i = some b) : DqBy cX10_group (0 + i) b := dqBy_of qeX10_group ((qsX10_group_0 i).trans (dq_in h))
theorem qX10_group_1 (i b : Nat) (h : dqNth qaX10_group_1 i = some b) : DqBy cX10_group (16 + i) b := dqBy_of qeX10_group ((qsX10_group_1 i).trans (dq_in h))
theorem qX10_group_2 (i b : Nat) (h : dqNth qaX10_group_2 i = some b) : DqBy cX10_group (32 + i) b := dqBy_of qeX10_group ((qsX10_group_2 i).trans (dq_in h))
theorem dX10_group_0 : decode cX10_group 0 = .ok (.iload_n 1, 1) := @dq_o27 cX10_group 0 (qX10_group_0 0 27 rfl)
theorem dX10_group_1 : decode cX10_group 1 = .ok (.iload_n 2, 1) := @dq_o28 cX10_group 1 (qX10_group_0 1 28 rfl)
theorem dX10_group_2 : decode cX10_group 2 = .ok (.invokestatic 119, 3) := @dq_o184 cX10_group 2 0 119 (qX10_group_0 2 184 rfl) (qX10_group_0 3 0 rfl) (qX10_group_0 4 119 rfl)
theorem dX10_group_5 : decode cX10_group 5 = .ok (.ifCond .ne 5, 3) := @dq_o154 cX10_group 5 0 5 (qX10_group_0 5 154 rfl) (qX10_group_0 6 0 rfl) (qX10_group_0 7 5 rfl)
theorem dX10_group_8 : decode cX10_group 8 = .ok (.iconst 0, 1) := @dq_o3 cX10_group 8 (qX10_group_0 8 3 rfl)
theorem dX10_group_9 : decode cX10_group 9 = .ok (.ireturn, 1) := @dq_o172 cX10_group 9 (qX10_group_0 9 172 rfl)
theorem dX10_group_10 : decode cX10_group 10 = .ok (.aload_n 0, 1) := @dq_o42 cX10_group 10 (qX10_group_0 10 42 rfl)
theorem dX10_group_11 : decode cX10_group 11 = .ok (.invokevirtual 123, 3) := @dq_o182 cX10_group 11 0 123 (qX10_group_0 11 182 rfl) (qX10_group_0 12 0 rfl) (qX10_group_0 13 123 rfl)
theorem dX10_group_14 : decode cX10_group 14 = .ok (.aload_n 0, 1) := @dq_o42 cX10_group 14 (qX10_group_0 14 42 rfl)
theorem dX10_group_15 : decode cX10_group 15 = .ok (.getfield 12, 3) := @dq_o180 cX10_group 15 0 12 (qX10_group_0 15 180 rfl) (qX10_group_1 0 0 rfl) (qX10_group_1 1 12 rfl)
theorem dX10_group_18 : decode cX10_group 18 = .ok (.getfield 105, 3) := @dq_o180 cX10_group 18 0 105 (qX10_group_1 2 180 rfl) (qX10_group_1 3 0 rfl) (qX10_group_1 4 105 rfl)
theorem dX10_group_21 : decode cX10_group 21 = .ok (.iload_n 1, 1) := @dq_o27 cX10_group 21 (qX10_group_1 5 27 rfl)
theorem dX10_group_22 : decode cX10_group 22 = .ok (.iload_n 2, 1) := @dq_o28 cX10_group 22 (qX10_group_1 6 28 rfl)
theorem dX10_group_23 : decode cX10_group 23 = .ok (.invokevirtual 126, 3) := @dq_o182 cX10_group 23 0 126 (qX10_group_1 7 182 rfl) (qX10_group_1 8 0 rfl) (qX10_group_1 9 126 rfl)
theorem dX10_group_26 : decode cX10_group 26 = .ok (.aload_n 0, 1) := @dq_o42 cX10_group 26 (qX10_group_1 10 42 rfl)
theorem dX10_group_27 : decode cX10_group 27 = .ok (.getfield 53, 3) := @dq_o180 cX10_group 27 0 53 (qX10_group_1 11 180 rfl) (qX10_group_1 12 0 rfl) (qX10_group_1 13 53 rfl)
theorem dX10_group_30 : decode cX10_group 30 = .ok (.aload_n 0, 1) := @dq_o42 cX10_group 30 (qX10_group_1 14 42 rfl)
theorem dX10_group_31 : decode cX10_group 31 = .ok (.getfield 12, 3) := @dq_o180 cX10_group 31 0 12 (qX10_group_1 15 180 rfl) (qX10_group_2 0 0 rfl) (qX10_group_2 1 12 rfl)
theorem dX10_group_34 : decode cX10_group 34 = .ok (.getfield 105, 3) := @dq_o180 cX10_group 34 0 105 (qX10_group_2 2 180 rfl) (qX10_group_2 3 0 rfl) (qX10_group_2 4 105 rfl)
theorem dX10_group_37 : decode cX10_group 37 = .ok (.invokevirtual 115, 3) := @dq_o182 cX10_group 37 0 115 (qX10_group_2 5 182 rfl) (qX10_group_2 6 0 rfl) (qX10_group_2 7 115 rfl)
theorem dX10_group_40 : decode cX10_group 40 = .ok (.iconst 1, 1) := @dq_o4 cX10_group 40 (qX10_group_2 8 4 rfl)
theorem dX10_group_41 : decode cX10_group 41 = .ok (.ireturn, 1) := @dq_o172 cX10_group 41 (qX10_group_2 9 172 rfl)
abbrev qaX10_tail_0 : List Nat := [42, 180, 0, 12, 180, 0, 105, 27, 4, 100, 28, 4, 100, 29, 4, 100]
abbrev qaX10_tail_1 : List Nat := [21, 4, 182, 0, 130, 154, 0, 5, 3, 172, 42, 182, 0, 123, 42, 180]
abbrev qaX10_tail_2 : List Nat := [0, 12, 180, 0, 105, 27, 4, 100, 28, 4, 100, 29, 4, 100, 21, 4]
abbrev qaX10_tail_3 : List Nat := [182, 0, 134, 42, 180, 0, 53, 42, 180, 0, 12, 180, 0, 105, 182, 0]
abbrev qaX10_tail_4 : List Nat := [115, 4, 172]
def qtX10_tail_5 : List Nat := []
def qtX10_tail_4 : List Nat := qaX10_tail_4 ++ qtX10_tail_5
def qtX10_tail_3 : List Nat := qaX10_tail_3 ++ qtX10_tail_4
def qtX10_tail_2 : List Nat := qaX10_tail_2 ++ qtX10_tail_3
def qtX10_tail_1 : List Nat := qaX10_tail_1 ++ qtX10_tail_2
def qtX10_tail_0 : List Nat := qaX10_tail_0 ++ qtX10_tail_1
theorem qeX10_tail : cX10_tail.data.toList.map UInt8.toNat = qtX10_tail_0 := by decide +kernel
theorem qsX10_tail_0 : ∀ i, dqNth qtX10_tail_0 (0 + i) = dqNth qtX10_tail_0 i := fun i => by rw [Nat.zero_add]
theorem qsX10_tail_1 : ∀ i, dqNth qtX10_tail_0 (16 + i) = dqNth qtX10_tail_1 i := dq_step qsX10_tail_0 rfl rfl
theorem qsX10_tail_2 : ∀ i, dqNth qtX10_tail_0 (32 + i) = dqNth qtX10_tail_2 i := dq_step qsX10_tail_1 rfl rfl
theorem qsX10_tail_3 : ∀ i, dqNth qtX10_tail_0 (48 + i) = dqNth qtX10_tail_3 i := dq_step qsX10_tail_2 rfl rfl
theorem qsX10_tail_4 : ∀ i, dqNth qtX10_tail_0 (64 + i) = dqNth qtX10_tail_4 i := dq_step qsX10_tail_3 rfl rfl
theorem qX10_tail_0 (i b : Nat) (h : dqNth qaX10_tail_0 i = some b) : DqBy cX10_tail (0 + i) b := dqBy_of qeX10_tail ((qsX10_tail_0 i).trans (dq_in h))
theorem qX10_tail_1 (i b : Nat) (h : dqNth qaX10_tail_1 i = some b) : DqBy cX10_tail (16 + i) b := dqBy_of qeX10_tail ((qsX10_tail_1 i).trans (dq_in h))
theorem qX10_tail_2 (i b : Nat) (h : dqNth qaX10_tail_2 i = some b) : DqBy cX10_tail (32 + i) b := dqBy_of qeX10_tail ((qsX10_tail_2 i).trans (dq_in h))
theorem qX10_tail_3 (i b : Nat) (h : dqNth qaX10_tail_3 i = some b) : DqBy cX10_tail (48 + i) b := dqBy_of qeX10_tail ((qsX10_tail_3 i).trans (dq_in h))
theorem qX10_tail_4 (i b : Nat) (h : dqNth qaX10_tail_4 i = some b) : DqBy cX10_tail (64 + i) b := dqBy_of qeX10_tail ((qsX10_tail_4 i).trans (dq_in h))
theorem dX10_tail_0 : decode cX10_tail 0 = .ok (.aload_n 0, 1) := @dq_o42 cX10_tail 0 (qX10_tail_0 0 42 rfl)
theorem dX10_tail_1 : decode cX10_tail 1 = .ok (.getfield 12, 3) := @dq_o180 cX10_tail 1 0 12 (qX10_tail_0 1 180 rfl) (qX10_tail_0 2 0 rfl) (qX10_tail_0 3 12 rfl)
theorem dX10_tail_4 : decode cX10_tail 4 = .ok (.getfield 105, 3) := @dq_o180 cX10_tail 4 0 105 (qX10_tail_0 4 180 rfl) (qX10_tail_0 5 0 rfl) (qX10_tail_0 6 105 rfl)
theorem dX10_tail_7 : decode cX10_tail 7 = .ok (.iload_n 1, 1) := @dq_o27 cX10_tail 7 (qX10_tail_0 7 27 rfl)
theorem dX10_tail_8 : decode cX10_tail 8 = .ok (.iconst 1, 1) := @dq_o4 cX10_tail 8 (qX10_tail_0 8 4 rfl)
theorem dX10_tail_9 : decode cX10_tail 9 = .ok (.isub, 1) := @dq_o100 cX10_tail 9 (qX10_tail_0 9 100 rfl)
theorem dX10_tail_10 : decode cX10_tail 10 = .ok (.iload_n 2, 1) := @dq_o28 cX10_tail 10 (qX10_tail_0 10 28 rfl)
theorem dX10_tail_11 : decode cX10_tail 11 = .ok (.iconst 1, 1) := @dq_o4 cX10_tail 11 (qX10_tail_0 11 4 rfl)
theorem dX10_tail_12 : decode cX10_tail 12 = .ok (.isub, 1) := @dq_o100 cX10_tail 12 (qX10_tail_0 12 100 rfl)
theorem dX10_tail_13 : decode cX10_tail 13 = .ok (.iload_n 3, 1) := @dq_o29 cX10_tail 13 (qX10_tail_0 13 29 rfl)
theorem dX10_tail_14 : decode cX10_tail 14 = .ok (.iconst 1, 1) := @dq_o4 cX10_tail 14 (qX10_tail_0 14 4 rfl)
theorem dX10_tail_15 : decode cX10_tail 15 = .ok (.isub, 1) := @dq_o100 cX10_tail 15 (qX10_tail_0 15 100 rfl)
theorem dX10_tail_16 : decode cX10_tail 16 = .ok (.iload 4, 2) := @dq_o21 cX10_tail 16 4 (qX10_tail_1 0 21 rfl) (qX10_tail_1 1 4 rfl)
theorem dX10_tail_18 : decode cX10_tail 18 = .ok (.invokevirtual 130, 3) := @dq_o182 cX10_tail 18 0 130 (qX10_tail_1 2 182 rfl) (qX10_tail_1 3 0 rfl) (qX10_tail_1 4 130 rfl)
theorem dX10_tail_21 : decode cX10_tail 21 = .ok (.ifCond .ne 5, 3) := @dq_o154 cX10_tail 21 0 5 (qX10_tail_1 5 154 rfl) (qX10_tail_1 6 0 rfl) (qX10_tail_1 7 5 rfl)
theorem dX10_tail_24 : decode cX10_tail 24 = .ok (.iconst 0, 1) := @dq_o3 cX10_tail 24 (qX10_tail_1 8 3 rfl)
theorem dX10_tail_25 : decode cX10_tail 25 = .ok (.ireturn, 1) := @dq_o172 cX10_tail 25 (qX10_tail_1 9 172 rfl)
theorem dX10_tail_26 : decode cX10_tail 26 = .ok (.aload_n 0, 1) := @dq_o42 cX10_tail 26 (qX10_tail_1 10 42 rfl)
theorem dX10_tail_27 : decode cX10_tail 27 = .ok (.invokevirtual 123, 3) := @dq_o182 cX10_tail 27 0 123 (qX10_tail_1 11 182 rfl) (qX10_tail_1 12 0 rfl) (qX10_tail_1 13 123 rfl)
theorem dX10_tail_30 : decode cX10_tail 30 = .ok (.aload_n 0, 1) := @dq_o42 cX10_tail 30 (qX10_tail_1 14 42 rfl)
theorem dX10_tail_31 : decode cX10_tail 31 = .ok (.getfield 12, 3) := @dq_o180 cX10_tail 31 0 12 (qX10_tail_1 15 180 rfl) (qX10_tail_2 0 0 rfl) (qX10_tail_2 1 12 rfl)
theorem dX10_tail_34 : decode cX10_tail 34 = .ok (.getfield 105, 3) := @dq_o180 cX10_tail 34 0 105 (qX10_tail_2 2 180 rfl) (qX10_tail_2 3 0 rfl) (qX10_tail_2 4 105 rfl)
theorem dX10_tail_37 : decode cX10_tail 37 = .ok (.iload_n 1, 1) := @dq_o27 cX10_tail 37 (qX10_tail_2 5 27 rfl)
theorem dX10_tail_38 : decode cX10_tail 38 = .ok (.iconst 1, 1) := @dq_o4 cX10_tail 38 (qX10_tail_2 6 4 rfl)
theorem dX10_tail_39 : decode cX10_tail 39 = .ok (.isub, 1) := @dq_o100 cX10_tail 39 (qX10_tail_2 7 100 rfl)
theorem dX10_tail_40 : decode cX10_tail 40 = .ok (.iload_n 2, 1) := @dq_o28 cX10_tail 40 (qX10_tail_2 8 28 rfl)
theorem dX10_tail_41 : decode cX10_tail 41 = .ok (.iconst 1, 1) := @dq_o4 cX10_tail 41 (qX10_tail_2 9 4 rfl)
theorem dX10_tail_42 : decode cX10_tail 42 = .ok (.isub, 1) := @dq_o100 cX10_tail 42 (qX10_tail_2 10 100 rfl)
theorem dX10_tail_43 : decode cX10_tail 43 = .ok (.iload_n 3, 1) := @dq_o29 cX10_tail 43 (qX10_tail_2 11 29 rfl)
theorem dX10_tail_44 : decode cX10_tail 44 = .ok (.iconst 1, 1) := @dq_o4 cX10_tail 44 (qX10_tail_2 12 4 rfl)
theorem dX10_tail_45 : decode cX10_tail 45 = .ok (.isub, 1) := @dq_o100 cX10_tail 45 (qX10_tail_2 13 100 rfl)
theorem dX10_tail_46 : decode cX10_tail 46 = .ok (.iload 4, 2) := @dq_o21 cX10_tail 46 4 (qX10_tail_2 14 21 rfl) (qX10_tail_2 15 4 rfl)
theorem dX10_tail_48 : decode cX10_tail 48 = .ok (.invokevirtual 134, 3) := @dq_o182 cX10_tail 48 0 134 (qX10_tail_3 0 182 rfl) (qX10_tail_3 1 0 rfl) (qX10_tail_3 2 134 rfl)
theorem dX10_tail_51 : decode cX10_tail 51 = .ok (.aload_n 0, 1) := @dq_o42 cX10_tail 51 (qX10_tail_3 3 42 rfl)
theorem dX10_tail_52 : decode cX10_tail 52 = .ok (.getfield 53, 3) := @dq_o180 cX10_tail 52 0 53 (qX10_tail_3 4 180 rfl) (qX10_tail_3 5 0 rfl) (qX10_tail_3 6 53 rfl)
theorem dX10_tail_55 : decode cX10_tail 55 = .ok (.aload_n 0, 1) := @dq_o42 cX10_tail 55 (qX10_tail_3 7 42 rfl)
theorem dX10_tail_56 : decode cX10_tail 56 = .ok (.getfield 12, 3) := @dq_o180 cX10_tail 56 0 12 (qX10_tail_3 8 180 rfl) (qX10_tail_3 9 0 rfl) (qX10_tail_3 10 12 rfl)
theorem dX10_tail_59 : decode cX10_tail 59 = .ok (.getfield 105, 3) := @dq_o180 cX10_tail 59 0 105 (qX10_tail_3 11 180 rfl) (qX10_tail_3 12 0 rfl) (qX10_tail_3 13 105 rfl)
theorem dX10_tail_62 : decode cX10_tail 62 = .ok (.invokevirtual 115, 3) := @dq_o182 cX10_tail 62 0 115 (qX10_tail_3 14 182 rfl) (qX10_tail_3 15 0 rfl) (qX10_tail_4 0 115 rfl)
theorem dX10_tail_65 : decode cX10_tail 65 = .ok (.iconst 1, 1) := @dq_o4 cX10_tail 65 (qX10_tail_4 1 4 rfl)
theorem dX10_tail_66 : decode cX10_tail 66 = .ok (.ireturn, 1) := @dq_o172 cX10_tail 66 (qX10_tail_4 2 172 rfl)
abbrev qaX10_kind_0 : List Nat := [27, 155, 0, 11, 27, 178, 0, 138, 190, 161, 0, 5, 3, 172, 42, 182]
abbrev qaX10_kind_1 : List Nat := [0, 123, 42, 180, 0, 12, 180, 0, 105, 27, 182, 0, 109, 42, 180, 0]
abbrev qaX10_kind_2 : List Nat := [53, 42, 180, 0, 12, 180, 0, 105, 182, 0, 115, 4, 172]
def qtX10_kind_3 : List Nat := []
def qtX10_kind_2 : List Nat := qaX10_kind_2 ++ qtX10_kind_3
def qtX10_kind_1 : List Nat := qaX10_kind_1 ++ qtX10_kind_2
def qtX10_kind_0 : List Nat := qaX10_kind_0 ++ qtX10_kind_1
theorem qeX10_kind : cX10_kind.data.toList.map UInt8.toNat = qtX10_kind_0 := by decide +kernel
theorem qsX10_kind_0 : ∀ i, dqNth qtX10_kind_0 (0 + i) = dqNth qtX10_kind_0 i := fun i => by rw [Nat.zero_add]
theorem qsX10_kind_1 : ∀ i, dqNth qtX10_kind_0 (16 + i) = dqNth qtX10_kind_1 i := dq_step qsX10_kind_0 rfl rfl
theorem qsX10_kind_2 : ∀ i, dqNth qtX10_kind_0 (32 + i) = dqNth qtX10_kind_2 i := dq_step qsX10_kind_1 rfl rfl
theorem qX10_kind_0 (i b : Nat) (h : dqNth qaX10_kind_0 i = some b) : DqBy cX10_kind (0 + i) b := dqBy_of qeX10_kind ((qsX10_kind_0 i).trans (dq_in h))
theorem qX10_kind_1 (i b : Nat) (h : dqNth qaX10_kind_1 i = some b) : DqBy cX10_kind (16 + i) b := dqBy_of qeX10_kind ((qsX10_kind_1 i).trans (dq_in h))
theorem qX10_kind_2 (i b : Nat) (h : dqNth qaX10_kind_2 i = some b) : DqBy cX10_kind (32 + i) b := dqBy_of qeX10_kind ((qsX10_kind_2 i).trans (dq_in h))
theorem dX10_kind_0 : decode cX10_kind 0 = .ok (.iload_n 1, 1) := @dq_o27 cX10_kind 0 (qX10_kind_0 0 27 rfl)
theorem dX10_kind_1 : decode cX10_kind 1 = .ok (.ifCond .lt 11, 3) := @dq_o155 cX10_kind 1 0 11 (qX10_kind_0 1 155 rfl) (qX10_kind_0 2 0 rfl) (qX10_kind_0 3 11 rfl)
theorem dX10_kind_4 : decode cX10_kind 4 = .ok (.iload_n 1, 1) := @dq_o27 cX10_kind 4 (qX10_kind_0 4 27 rfl)
theorem dX10_kind_5 : decode cX10_kind 5 = .ok (.getstatic 138, 3) := @dq_o178 cX10_kind 5 0 138 (qX10_kind_0 5 178 rfl) (qX10_kind_0 6 0 rfl) (qX10_kind_0 7 138 rfl)
theorem dX10_kind_8 : decode cX10_kind 8 = .ok (.arraylength, 1) := @dq_o190 cX10_kind 8 (qX10_kind_0 8 190 rfl)
theorem dX10_kind_9 : decode cX10_kind 9 = .ok (.if_icmp .lt 5, 3) := @dq_o161 cX10_kind 9 0 5 (qX10_kind_0 9 161 rfl) (qX10_kind_0 10 0 rfl) (qX10_kind_0 11 5 rfl)
theorem dX10_kind_12 : decode cX10_kind 12 = .ok (.iconst 0, 1) := @dq_o3 cX10_kind 12 (qX10_kind_0 12 3 rfl)
theorem dX10_kind_13 : decode cX10_kind 13 = .ok (.ireturn, 1) := @dq_o172 cX10_kind 13 (qX10_kind_0 13 172 rfl)
theorem dX10_kind_14 : decode cX10_kind 14 = .ok (.aload_n 0, 1) := @dq_o42 cX10_kind 14 (qX10_kind_0 14 42 rfl)
theorem dX10_kind_15 : decode cX10_kind 15 = .ok (.invokevirtual 123, 3) := @dq_o182 cX10_kind 15 0 123 (qX10_kind_0 15 182 rfl) (qX10_kind_1 0 0 rfl) (qX10_kind_1 1 123 rfl)
theorem dX10_kind_18 : decode cX10_kind 18 = .ok (.aload_n 0, 1) := @dq_o42 cX10_kind 18 (qX10_kind_1 2 42 rfl)
theorem dX10_kind_19 : decode cX10_kind 19 = .ok (.getfield 12, 3) := @dq_o180 cX10_kind 19 0 12 (qX10_kind_1 3 180 rfl) (qX10_kind_1 4 0 rfl) (qX10_kind_1 5 12 rfl)
theorem dX10_kind_22 : decode cX10_kind 22 = .ok (.getfield 105, 3) := @dq_o180 cX10_kind 22 0 105 (qX10_kind_1 6 180 rfl) (qX10_kind_1 7 0 rfl) (qX10_kind_1 8 105 rfl)
theorem dX10_kind_25 : decode cX10_kind 25 = .ok (.iload_n 1, 1) := @dq_o27 cX10_kind 25 (qX10_kind_1 9 27 rfl)
theorem dX10_kind_26 : decode cX10_kind 26 = .ok (.invokevirtual 109, 3) := @dq_o182 cX10_kind 26 0 109 (qX10_kind_1 10 182 rfl) (qX10_kind_1 11 0 rfl) (qX10_kind_1 12 109 rfl)
theorem dX10_kind_29 : decode cX10_kind 29 = .ok (.aload_n 0, 1) := @dq_o42 cX10_kind 29 (qX10_kind_1 13 42 rfl)
theorem dX10_kind_30 : decode cX10_kind 30 = .ok (.getfield 53, 3) := @dq_o180 cX10_kind 30 0 53 (qX10_kind_1 14 180 rfl) (qX10_kind_1 15 0 rfl) (qX10_kind_2 0 53 rfl)
theorem dX10_kind_33 : decode cX10_kind 33 = .ok (.aload_n 0, 1) := @dq_o42 cX10_kind 33 (qX10_kind_2 1 42 rfl)
theorem dX10_kind_34 : decode cX10_kind 34 = .ok (.getfield 12, 3) := @dq_o180 cX10_kind 34 0 12 (qX10_kind_2 2 180 rfl) (qX10_kind_2 3 0 rfl) (qX10_kind_2 4 12 rfl)
theorem dX10_kind_37 : decode cX10_kind 37 = .ok (.getfield 105, 3) := @dq_o180 cX10_kind 37 0 105 (qX10_kind_2 5 180 rfl) (qX10_kind_2 6 0 rfl) (qX10_kind_2 7 105 rfl)
theorem dX10_kind_40 : decode cX10_kind 40 = .ok (.invokevirtual 115, 3) := @dq_o182 cX10_kind 40 0 115 (qX10_kind_2 8 182 rfl) (qX10_kind_2 9 0 rfl) (qX10_kind_2 10 115 rfl)
theorem dX10_kind_43 : decode cX10_kind 43 = .ok (.iconst 1, 1) := @dq_o4 cX10_kind 43 (qX10_kind_2 11 4 rfl)
theorem dX10_kind_44 : decode cX10_kind 44 = .ok (.ireturn, 1) := @dq_o172 cX10_kind 44 (qX10_kind_2 12 172 rfl)
abbrev qaX10_consistent_0 : List Nat := [42, 180, 0, 53, 180, 0, 141, 184, 0, 144, 172]
def qtX10_consistent_1 : List Nat := []
def qtX10_consistent_0 : List Nat := qaX10_consistent_0 ++ qtX10_consistent_1
theorem qeX10_consistent : cX10_consistent.data.toList.map UInt8.toNat = qtX10_consistent_0 := by decide +kernel
theorem qsX10_consistent_0 : ∀ i, dqNth qtX10_consistent_0 (0 + i) = dqNth qtX10_consistent_0 i := fun i => by rw [Nat.zero_add]
theorem qX10_consistent_0 (i b : Nat) (h : dqNth qaX10_consistent_0 i = some b) : DqBy cX10_consistent (0 + i) b := dqBy_of qeX10_consistent ((qsX10_consistent_0 i).trans (dq_in h))
theorem dX10_consistent_0 : decode cX10_consistent 0 = .ok (.aload_n 0, 1) := @dq_o42 cX10_consistent 0 (qX10_consistent_0 0 42 rfl)
theorem dX10_consistent_1 : decode cX10_consistent 1 = .ok (.getfield 53, 3) := @dq_o180 cX10_consistent 1 0 53 (qX10_consistent_0 1 180 rfl) (qX10_consistent_0 2 0 rfl) (qX10_consistent_0 3 53 rfl)
theorem dX10_consistent_4 : decode cX10_consistent 4 = .ok (.getfield 141, 3) := @dq_o180 cX10_consistent 4 0 141 (qX10_consistent_0 4 180 rfl) (qX10_consistent_0 5 0 rfl) (qX10_consistent_0 6 141 rfl)
theorem dX10_consistent_7 : decode cX10_consistent 7 = .ok (.invokestatic 144, 3) := @dq_o184 cX10_consistent 7 0 144 (qX10_consistent_0 7 184 rfl) (qX10_consistent_0 8 0 rfl) (qX10_consistent_0 9 144 rfl)
theorem dX10_consistent_10 : decode cX10_consistent 10 = .ok (.ireturn, 1) := @dq_o172 cX10_consistent 10 (qX10_consistent_0 10 172 rfl)
abbrev qaX10_generator_0 : List Nat := [42, 27, 182, 0, 148, 153, 0, 12, 28, 155, 0, 8, 28, 4, 164, 0]
abbrev qaX10_generator_1 : List Nat := [5, 2, 172, 28, 154, 0, 18, 42, 180, 0, 12, 180, 0, 105, 180, 0]
abbrev qaX10_generator_2 : List Nat := [152, 27, 4, 100, 46, 172, 42, 180, 0, 53, 180, 0, 141, 153, 0, 22]
abbrev qaX10_generator_3 : List Nat := [42, 180, 0, 12, 180, 0, 105, 27, 4, 100, 182, 0, 155, 184, 0, 144]
abbrev qaX10_generator_4 : List Nat := [167, 0, 4, 2, 172]
def qtX10_generator_5 : List Nat := []
def qtX10_generator_4 : List Nat := qaX10_generator_4 ++ qtX10_generator_5
def qtX10_generator_3 : List Nat := qaX10_generator_3 ++ qtX10_generator_4
def qtX10_generator_2 : List Nat := qaX10_generator_2 ++ qtX10_generator_3
def qtX10_generator_1 : List Nat := qaX10_generator_1 ++ qtX10_generator_2
def qtX10_generator_0 : List Nat := qaX10_generator_0 ++ qtX10_generator_1
theorem qeX10_generator : cX10_generator.data.toList.map UInt8.toNat = qtX10_generator_0 := by decide +kernel
theorem qsX10_generator_0 : ∀ i, dqNth qtX10_generator_0 (0 + i) = dqNth qtX10_generator_0 i := fun i => by rw [Nat.zero_add]
theorem qsX10_generator_1 : ∀ i, dqNth qtX10_generator_0 (16 + i) = dqNth qtX10_generator_1 i := dq_step qsX10_generator_0 rfl rfl
theorem qsX10_generator_2 : ∀ i, dqNth qtX10_generator_0 (32 + i) = dqNth qtX10_generator_2 i := dq_step qsX10_generator_1 rfl rfl
theorem qsX10_generator_3 : ∀ i, dqNth qtX10_generator_0 (48 + i) = dqNth qtX10_generator_3 i := dq_step qsX10_generator_2 rfl rfl
theorem qsX10_generator_4 : ∀ i, dqNth qtX10_generator_0 (64 + i) = dqNth qtX10_generator_4 i := dq_step qsX10_generator_3 rfl rfl
theorem qX10_generator_0 (i b : Nat) (h : dqNth qaX10_generator_0 i = some b) : DqBy cX10_generator (0 + i) b := dqBy_of qeX10_generator ((qsX10_generator_0 i).trans (dq_in h))
theorem qX10_generator_1 (i b : Nat) (h : dqNth qaX10_generator_1 i = some b) : DqBy cX10_generator (16 + i) b := dqBy_of qeX10_generator ((qsX10_generator_1 i).trans (dq_in h))
theorem qX10_generator_2 (i b : Nat) (h : dqNth qaX10_generator_2 i = some b) : DqBy cX10_generator (32 + i) b := dqBy_of qeX10_generator ((qsX10_generator_2 i).trans (dq_in h))
theorem qX10_generator_3 (i b : Nat) (h : dqNth qaX10_generator_3 i = some b) : DqBy cX10_generator (48 + i) b := dqBy_of qeX10_generator ((qsX10_generator_3 i).trans (dq_in h))
theorem qX10_generator_4 (i b : Nat) (h : dqNth qaX10_generator_4 i = some b) : DqBy cX10_generator (64 + i) b := dqBy_of qeX10_generator ((qsX10_generator_4 i).trans (dq_in h))
theorem dX10_generator_0 : decode cX10_generator 0 = .ok (.aload_n 0, 1) := @dq_o42 cX10_generator 0 (qX10_generator_0 0 42 rfl)
theorem dX10_generator_1 : decode cX10_generator 1 = .ok (.iload_n 1, 1) := @dq_o27 cX10_generator 1 (qX10_generator_0 1 27 rfl)
theorem dX10_generator_2 : decode cX10_generator 2 = .ok (.invokevirtual 148, 3) := @dq_o182 cX10_generator 2 0 148 (qX10_generator_0 2 182 rfl) (qX10_generator_0 3 0 rfl) (qX10_generator_0 4 148 rfl)
theorem dX10_generator_5 : decode cX10_generator 5 = .ok (.ifCond .eq 12, 3) := @dq_o153 cX10_generator 5 0 12 (qX10_generator_0 5 153 rfl) (qX10_generator_0 6 0 rfl) (qX10_generator_0 7 12 rfl)
theorem dX10_generator_8 : decode cX10_generator 8 = .ok (.iload_n 2, 1) := @dq_o28 cX10_generator 8 (qX10_generator_0 8 28 rfl)
theorem dX10_generator_9 : decode cX10_generator 9 = .ok (.ifCond .lt 8, 3) := @dq_o155 cX10_generator 9 0 8 (qX10_generator_0 9 155 rfl) (qX10_generator_0 10 0 rfl) (qX10_generator_0 11 8 rfl)
theorem dX10_generator_12 : decode cX10_generator 12 = .ok (.iload_n 2, 1) := @dq_o28 cX10_generator 12 (qX10_generator_0 12 28 rfl)
theorem dX10_generator_13 : decode cX10_generator 13 = .ok (.iconst 1, 1) := @dq_o4 cX10_generator 13 (qX10_generator_0 13 4 rfl)
theorem dX10_generator_14 : decode cX10_generator 14 = .ok (.if_icmp .le 5, 3) := @dq_o164 cX10_generator 14 0 5 (qX10_generator_0 14 164 rfl) (qX10_generator_0 15 0 rfl) (qX10_generator_1 0 5 rfl)
theorem dX10_generator_17 : decode cX10_generator 17 = .ok (.iconst (-1), 1) := @dq_o2 cX10_generator 17 (qX10_generator_1 1 2 rfl)
theorem dX10_generator_18 : decode cX10_generator 18 = .ok (.ireturn, 1) := @dq_o172 cX10_generator 18 (qX10_generator_1 2 172 rfl)
theorem dX10_generator_19 : decode cX10_generator 19 = .ok (.iload_n 2, 1) := @dq_o28 cX10_generator 19 (qX10_generator_1 3 28 rfl)
theorem dX10_generator_20 : decode cX10_generator 20 = .ok (.ifCond .ne 18, 3) := @dq_o154 cX10_generator 20 0 18 (qX10_generator_1 4 154 rfl) (qX10_generator_1 5 0 rfl) (qX10_generator_1 6 18 rfl)
theorem dX10_generator_23 : decode cX10_generator 23 = .ok (.aload_n 0, 1) := @dq_o42 cX10_generator 23 (qX10_generator_1 7 42 rfl)
theorem dX10_generator_24 : decode cX10_generator 24 = .ok (.getfield 12, 3) := @dq_o180 cX10_generator 24 0 12 (qX10_generator_1 8 180 rfl) (qX10_generator_1 9 0 rfl) (qX10_generator_1 10 12 rfl)
theorem dX10_generator_27 : decode cX10_generator 27 = .ok (.getfield 105, 3) := @dq_o180 cX10_generator 27 0 105 (qX10_generator_1 11 180 rfl) (qX10_generator_1 12 0 rfl) (qX10_generator_1 13 105 rfl)
theorem dX10_generator_30 : decode cX10_generator 30 = .ok (.getfield 152, 3) := @dq_o180 cX10_generator 30 0 152 (qX10_generator_1 14 180 rfl) (qX10_generator_1 15 0 rfl) (qX10_generator_2 0 152 rfl)
theorem dX10_generator_33 : decode cX10_generator 33 = .ok (.iload_n 1, 1) := @dq_o27 cX10_generator 33 (qX10_generator_2 1 27 rfl)
theorem dX10_generator_34 : decode cX10_generator 34 = .ok (.iconst 1, 1) := @dq_o4 cX10_generator 34 (qX10_generator_2 2 4 rfl)
theorem dX10_generator_35 : decode cX10_generator 35 = .ok (.isub, 1) := @dq_o100 cX10_generator 35 (qX10_generator_2 3 100 rfl)
theorem dX10_generator_36 : decode cX10_generator 36 = .ok (.iaload, 1) := @dq_o46 cX10_generator 36 (qX10_generator_2 4 46 rfl)
theorem dX10_generator_37 : decode cX10_generator 37 = .ok (.ireturn, 1) := @dq_o172 cX10_generator 37 (qX10_generator_2 5 172 rfl)
theorem dX10_generator_38 : decode cX10_generator 38 = .ok (.aload_n 0, 1) := @dq_o42 cX10_generator 38 (qX10_generator_2 6 42 rfl)
theorem dX10_generator_39 : decode cX10_generator 39 = .ok (.getfield 53, 3) := @dq_o180 cX10_generator 39 0 53 (qX10_generator_2 7 180 rfl) (qX10_generator_2 8 0 rfl) (qX10_generator_2 9 53 rfl)
theorem dX10_generator_42 : decode cX10_generator 42 = .ok (.getfield 141, 3) := @dq_o180 cX10_generator 42 0 141 (qX10_generator_2 10 180 rfl) (qX10_generator_2 11 0 rfl) (qX10_generator_2 12 141 rfl)
theorem dX10_generator_45 : decode cX10_generator 45 = .ok (.ifCond .eq 22, 3) := @dq_o153 cX10_generator 45 0 22 (qX10_generator_2 13 153 rfl) (qX10_generator_2 14 0 rfl) (qX10_generator_2 15 22 rfl)
theorem dX10_generator_48 : decode cX10_generator 48 = .ok (.aload_n 0, 1) := @dq_o42 cX10_generator 48 (qX10_generator_3 0 42 rfl)
theorem dX10_generator_49 : decode cX10_generator 49 = .ok (.getfield 12, 3) := @dq_o180 cX10_generator 49 0 12 (qX10_generator_3 1 180 rfl) (qX10_generator_3 2 0 rfl) (qX10_generator_3 3 12 rfl)
theorem dX10_generator_52 : decode cX10_generator 52 = .ok (.getfield 105, 3) := @dq_o180 cX10_generator 52 0 105 (qX10_generator_3 4 180 rfl) (qX10_generator_3 5 0 rfl) (qX10_generator_3 6 105 rfl)
theorem dX10_generator_55 : decode cX10_generator 55 = .ok (.iload_n 1, 1) := @dq_o27 cX10_generator 55 (qX10_generator_3 7 27 rfl)
theorem dX10_generator_56 : decode cX10_generator 56 = .ok (.iconst 1, 1) := @dq_o4 cX10_generator 56 (qX10_generator_3 8 4 rfl)
theorem dX10_generator_57 : decode cX10_generator 57 = .ok (.isub, 1) := @dq_o100 cX10_generator 57 (qX10_generator_3 9 100 rfl)
theorem dX10_generator_58 : decode cX10_generator 58 = .ok (.invokevirtual 155, 3) := @dq_o182 cX10_generator 58 0 155 (qX10_generator_3 10 182 rfl) (qX10_generator_3 11 0 rfl) (qX10_generator_3 12 155 rfl)
theorem dX10_generator_61 : decode cX10_generator 61 = .ok (.invokestatic 144, 3) := @dq_o184 cX10_generator 61 0 144 (qX10_generator_3 13 184 rfl) (qX10_generator_3 14 0 rfl) (qX10_generator_3 15 144 rfl)
theorem dX10_generator_64 : decode cX10_generator 64 = .ok (.goto 4, 3) := @dq_o167 cX10_generator 64 0 4 (qX10_generator_4 0 167 rfl) (qX10_generator_4 1 0 rfl) (qX10_generator_4 2 4 rfl)
theorem dX10_generator_67 : decode cX10_generator 67 = .ok (.iconst (-1), 1) := @dq_o2 cX10_generator 67 (qX10_generator_4 3 2 rfl)
theorem dX10_generator_68 : decode cX10_generator 68 = .ok (.ireturn, 1) := @dq_o172 cX10_generator 68 (qX10_generator_4 4 172 rfl)
abbrev qaX10_tailOf_0 : List Nat := [42, 180, 0, 12, 180, 0, 105, 27, 4, 100, 28, 4, 100, 29, 4, 100]
abbrev qaX10_tailOf_1 : List Nat := [182, 0, 158, 153, 0, 25, 42, 180, 0, 12, 180, 0, 105, 27, 4, 100]
abbrev qaX10_tailOf_2 : List Nat := [28, 4, 100, 29, 4, 100, 182, 0, 162, 167, 0, 4, 2, 172]
def qtX10_tailOf_3 : List Nat := []
def qtX10_tailOf_2 : List Nat := qaX10_tailOf_2 ++ qtX10_tailOf_3
def qtX10_tailOf_1 : List Nat := qaX10_tailOf_1 ++ qtX10_tailOf_2
def qtX10_tailOf_0 : List Nat := qaX10_tailOf_0 ++ qtX10_tailOf_1
theorem qeX10_tailOf : cX10_tailOf.data.toList.map UInt8.toNat = qtX10_tailOf_0 := by decide +kernel
theorem qsX10_tailOf_0 : ∀ i, dqNth qtX10_tailOf_0 (0 + i) = dqNth qtX10_tailOf_0 i := fun i => by rw [Nat.zero_add]
theorem qsX10_tailOf_1 : ∀ i, dqNth qtX10_tailOf_0 (16 + i) = dqNth qtX10_tailOf_1 i := dq_step qsX10_tailOf_0 rfl rfl
theorem qsX10_tailOf_2 : ∀ i, dqNth qtX10_tailOf_0 (32 + i) = dqNth qtX10_tailOf_2 i := dq_step qsX10_tailOf_1 rfl rfl
theorem qX10_tailOf_0 (i b : Nat) (h : dqNth qaX10_tailOf_0 i = some b) : DqBy cX10_tailOf (0 + i) b := dqBy_of qeX10_tailOf ((qsX10_tailOf_0 i).trans (dq_in h))
theorem qX10_tailOf_1 (i b : Nat) (h : dqNth qaX10_tailOf_1 i = some b) : DqBy cX10_tailOf (16 + i) b := dqBy_of qeX10_tailOf ((qsX10_tailOf_1 i).trans (dq_in h))
theorem qX10_tailOf_2 (i b : Nat) (h : dqNth qaX10_tailOf_2 i = some b) : DqBy cX10_tailOf (32 + i) b := dqBy_of qeX10_tailOf ((qsX10_tailOf_2 i).trans (dq_in h))
theorem dX10_tailOf_0 : decode cX10_tailOf 0 = .ok (.aload_n 0, 1) := @dq_o42 cX10_tailOf 0 (qX10_tailOf_0 0 42 rfl)
theorem dX10_tailOf_1 : decode cX10_tailOf 1 = .ok (.getfield 12, 3) := @dq_o180 cX10_tailOf 1 0 12 (qX10_tailOf_0 1 180 rfl) (qX10_tailOf_0 2 0 rfl) (qX10_tailOf_0 3 12 rfl)
theorem dX10_tailOf_4 : decode cX10_tailOf 4 = .ok (.getfield 105, 3) := @dq_o180 cX10_tailOf 4 0 105 (qX10_tailOf_0 4 180 rfl) (qX10_tailOf_0 5 0 rfl) (qX10_tailOf_0 6 105 rfl)
theorem dX10_tailOf_7 : decode cX10_tailOf 7 = .ok (.iload_n 1, 1) := @dq_o27 cX10_tailOf 7 (qX10_tailOf_0 7 27 rfl)
theorem dX10_tailOf_8 : decode cX10_tailOf 8 = .ok (.iconst 1, 1) := @dq_o4 cX10_tailOf 8 (qX10_tailOf_0 8 4 rfl)
theorem dX10_tailOf_9 : decode cX10_tailOf 9 = .ok (.isub, 1) := @dq_o100 cX10_tailOf 9 (qX10_tailOf_0 9 100 rfl)
theorem dX10_tailOf_10 : decode cX10_tailOf 10 = .ok (.iload_n 2, 1) := @dq_o28 cX10_tailOf 10 (qX10_tailOf_0 10 28 rfl)
theorem dX10_tailOf_11 : decode cX10_tailOf 11 = .ok (.iconst 1, 1) := @dq_o4 cX10_tailOf 11 (qX10_tailOf_0 11 4 rfl)
theorem dX10_tailOf_12 : decode cX10_tailOf 12 = .ok (.isub, 1) := @dq_o100 cX10_tailOf 12 (qX10_tailOf_0 12 100 rfl)
theorem dX10_tailOf_13 : decode cX10_tailOf 13 = .ok (.iload_n 3, 1) := @dq_o29 cX10_tailOf 13 (qX10_tailOf_0 13 29 rfl)
theorem dX10_tailOf_14 : decode cX10_tailOf 14 = .ok (.iconst 1, 1) := @dq_o4 cX10_tailOf 14 (qX10_tailOf_0 14 4 rfl)
theorem dX10_tailOf_15 : decode cX10_tailOf 15 = .ok (.isub, 1) := @dq_o100 cX10_tailOf 15 (qX10_tailOf_0 15 100 rfl)
theorem dX10_tailOf_16 : decode cX10_tailOf 16 = .ok (.invokevirtual 158, 3) := @dq_o182 cX10_tailOf 16 0 158 (qX10_tailOf_1 0 182 rfl) (qX10_tailOf_1 1 0 rfl) (qX10_tailOf_1 2 158 rfl)
theorem dX10_tailOf_19 : decode cX10_tailOf 19 = .ok (.ifCond .eq 25, 3) := @dq_o153 cX10_tailOf 19 0 25 (qX10_tailOf_1 3 153 rfl) (qX10_tailOf_1 4 0 rfl) (qX10_tailOf_1 5 25 rfl)
theorem dX10_tailOf_22 : decode cX10_tailOf 22 = .ok (.aload_n 0, 1) := @dq_o42 cX10_tailOf 22 (qX10_tailOf_1 6 42 rfl)
theorem dX10_tailOf_23 : decode cX10_tailOf 23 = .ok (.getfield 12, 3) := @dq_o180 cX10_tailOf 23 0 12 (qX10_tailOf_1 7 180 rfl) (qX10_tailOf_1 8 0 rfl) (qX10_tailOf_1 9 12 rfl)
theorem dX10_tailOf_26 : decode cX10_tailOf 26 = .ok (.getfield 105, 3) := @dq_o180 cX10_tailOf 26 0 105 (qX10_tailOf_1 10 180 rfl) (qX10_tailOf_1 11 0 rfl) (qX10_tailOf_1 12 105 rfl)
theorem dX10_tailOf_29 : decode cX10_tailOf 29 = .ok (.iload_n 1, 1) := @dq_o27 cX10_tailOf 29 (qX10_tailOf_1 13 27 rfl)
theorem dX10_tailOf_30 : decode cX10_tailOf 30 = .ok (.iconst 1, 1) := @dq_o4 cX10_tailOf 30 (qX10_tailOf_1 14 4 rfl)
theorem dX10_tailOf_31 : decode cX10_tailOf 31 = .ok (.isub, 1) := @dq_o100 cX10_tailOf 31 (qX10_tailOf_1 15 100 rfl)
theorem dX10_tailOf_32 : decode cX10_tailOf 32 = .ok (.iload_n 2, 1) := @dq_o28 cX10_tailOf 32 (qX10_tailOf_2 0 28 rfl)
theorem dX10_tailOf_33 : decode cX10_tailOf 33 = .ok (.iconst 1, 1) := @dq_o4 cX10_tailOf 33 (qX10_tailOf_2 1 4 rfl)
theorem dX10_tailOf_34 : decode cX10_tailOf 34 = .ok (.isub, 1) := @dq_o100 cX10_tailOf 34 (qX10_tailOf_2 2 100 rfl)
theorem dX10_tailOf_35 : decode cX10_tailOf 35 = .ok (.iload_n 3, 1) := @dq_o29 cX10_tailOf 35 (qX10_tailOf_2 3 29 rfl)
theorem dX10_tailOf_36 : decode cX10_tailOf 36 = .ok (.iconst 1, 1) := @dq_o4 cX10_tailOf 36 (qX10_tailOf_2 4 4 rfl)
theorem dX10_tailOf_37 : decode cX10_tailOf 37 = .ok (.isub, 1) := @dq_o100 cX10_tailOf 37 (qX10_tailOf_2 5 100 rfl)
theorem dX10_tailOf_38 : decode cX10_tailOf 38 = .ok (.invokevirtual 162, 3) := @dq_o182 cX10_tailOf 38 0 162 (qX10_tailOf_2 6 182 rfl) (qX10_tailOf_2 7 0 rfl) (qX10_tailOf_2 8 162 rfl)
theorem dX10_tailOf_41 : decode cX10_tailOf 41 = .ok (.goto 4, 3) := @dq_o167 cX10_tailOf 41 0 4 (qX10_tailOf_2 9 167 rfl) (qX10_tailOf_2 10 0 rfl) (qX10_tailOf_2 11 4 rfl)
theorem dX10_tailOf_44 : decode cX10_tailOf 44 = .ok (.iconst (-1), 1) := @dq_o2 cX10_tailOf 44 (qX10_tailOf_2 12 2 rfl)
theorem dX10_tailOf_45 : decode cX10_tailOf 45 = .ok (.ireturn, 1) := @dq_o172 cX10_tailOf 45 (qX10_tailOf_2 13 172 rfl)
abbrev qaX10_terms_0 : List Nat := [42, 27, 182, 0, 166, 153, 0, 20, 42, 180, 0, 53, 180, 0, 169, 27]
abbrev qaX10_terms_1 : List Nat := [4, 100, 50, 180, 0, 173, 167, 0, 4, 2, 172]
def qtX10_terms_2 : List Nat := []
def qtX10_terms_1 : List Nat := qaX10_terms_1 ++ qtX10_terms_2
def qtX10_terms_0 : List Nat := qaX10_terms_0 ++ qtX10_terms_1
theorem qeX10_terms : cX10_terms.data.toList.map UInt8.toNat = qtX10_terms_0 := by decide +kernel
theorem qsX10_terms_0 : ∀ i, dqNth qtX10_terms_0 (0 + i) = dqNth qtX10_terms_0 i := fun i => by rw [Nat.zero_add]
theorem qsX10_terms_1 : ∀ i, dqNth qtX10_terms_0 (16 + i) = dqNth qtX10_terms_1 i := dq_step qsX10_terms_0 rfl rfl
theorem qX10_terms_0 (i b : Nat) (h : dqNth qaX10_terms_0 i = some b) : DqBy cX10_terms (0 + i) b := dqBy_of qeX10_terms ((qsX10_terms_0 i).trans (dq_in h))
theorem qX10_terms_1 (i b : Nat) (h : dqNth qaX10_terms_1 i = some b) : DqBy cX10_terms (16 + i) b := dqBy_of qeX10_terms ((qsX10_terms_1 i).trans (dq_in h))
theorem dX10_terms_0 : decode cX10_terms 0 = .ok (.aload_n 0, 1) := @dq_o42 cX10_terms 0 (qX10_terms_0 0 42 rfl)
theorem dX10_terms_1 : decode cX10_terms 1 = .ok (.iload_n 1, 1) := @dq_o27 cX10_terms 1 (qX10_terms_0 1 27 rfl)
theorem dX10_terms_2 : decode cX10_terms 2 = .ok (.invokevirtual 166, 3) := @dq_o182 cX10_terms 2 0 166 (qX10_terms_0 2 182 rfl) (qX10_terms_0 3 0 rfl) (qX10_terms_0 4 166 rfl)
theorem dX10_terms_5 : decode cX10_terms 5 = .ok (.ifCond .eq 20, 3) := @dq_o153 cX10_terms 5 0 20 (qX10_terms_0 5 153 rfl) (qX10_terms_0 6 0 rfl) (qX10_terms_0 7 20 rfl)
theorem dX10_terms_8 : decode cX10_terms 8 = .ok (.aload_n 0, 1) := @dq_o42 cX10_terms 8 (qX10_terms_0 8 42 rfl)
theorem dX10_terms_9 : decode cX10_terms 9 = .ok (.getfield 53, 3) := @dq_o180 cX10_terms 9 0 53 (qX10_terms_0 9 180 rfl) (qX10_terms_0 10 0 rfl) (qX10_terms_0 11 53 rfl)
theorem dX10_terms_12 : decode cX10_terms 12 = .ok (.getfield 169, 3) := @dq_o180 cX10_terms 12 0 169 (qX10_terms_0 12 180 rfl) (qX10_terms_0 13 0 rfl) (qX10_terms_0 14 169 rfl)
theorem dX10_terms_15 : decode cX10_terms 15 = .ok (.iload_n 1, 1) := @dq_o27 cX10_terms 15 (qX10_terms_0 15 27 rfl)
theorem dX10_terms_16 : decode cX10_terms 16 = .ok (.iconst 1, 1) := @dq_o4 cX10_terms 16 (qX10_terms_1 0 4 rfl)
theorem dX10_terms_17 : decode cX10_terms 17 = .ok (.isub, 1) := @dq_o100 cX10_terms 17 (qX10_terms_1 1 100 rfl)
theorem dX10_terms_18 : decode cX10_terms 18 = .ok (.aaload, 1) := @dq_o50 cX10_terms 18 (qX10_terms_1 2 50 rfl)
theorem dX10_terms_19 : decode cX10_terms 19 = .ok (.getfield 173, 3) := @dq_o180 cX10_terms 19 0 173 (qX10_terms_1 3 180 rfl) (qX10_terms_1 4 0 rfl) (qX10_terms_1 5 173 rfl)
theorem dX10_terms_22 : decode cX10_terms 22 = .ok (.goto 4, 3) := @dq_o167 cX10_terms 22 0 4 (qX10_terms_1 6 167 rfl) (qX10_terms_1 7 0 rfl) (qX10_terms_1 8 4 rfl)
theorem dX10_terms_25 : decode cX10_terms 25 = .ok (.iconst (-1), 1) := @dq_o2 cX10_terms 25 (qX10_terms_1 9 2 rfl)
theorem dX10_terms_26 : decode cX10_terms 26 = .ok (.ireturn, 1) := @dq_o172 cX10_terms 26 (qX10_terms_1 10 172 rfl)
abbrev qaX10_term_0 : List Nat := [42, 180, 0, 12, 180, 0, 105, 180, 0, 178, 54, 4, 42, 27, 182, 0]
abbrev qaX10_term_1 : List Nat := [166, 153, 0, 15, 29, 155, 0, 11, 29, 5, 21, 4, 104, 164, 0, 7]
abbrev qaX10_term_2 : List Nat := [17, 216, 240, 172, 42, 180, 0, 53, 180, 0, 169, 27, 4, 100, 50, 58]
abbrev qaX10_term_3 : List Nat := [5, 28, 155, 0, 12, 28, 25, 5, 180, 0, 173, 161, 0, 7, 17, 216]
abbrev qaX10_term_4 : List Nat := [240, 172, 29, 154, 0, 12, 25, 5, 180, 0, 179, 28, 47, 136, 172, 29]
abbrev qaX10_term_5 : List Nat := [21, 4, 163, 0, 9, 29, 4, 100, 167, 0, 12, 16, 6, 29, 96, 21]
abbrev qaX10_term_6 : List Nat := [4, 100, 4, 100, 54, 6, 25, 5, 180, 0, 182, 28, 46, 21, 6, 184]
abbrev qaX10_term_7 : List Nat := [0, 185, 172]
def qtX10_term_8 : List Nat := []
def qtX10_term_7 : List Nat := qaX10_term_7 ++ qtX10_term_8
def qtX10_term_6 : List Nat := qaX10_term_6 ++ qtX10_term_7
def qtX10_term_5 : List Nat := qaX10_term_5 ++ qtX10_term_6
def qtX10_term_4 : List Nat := qaX10_term_4 ++ qtX10_term_5
def qtX10_term_3 : List Nat := qaX10_term_3 ++ qtX10_term_4
def qtX10_term_2 : List Nat := qaX10_term_2 ++ qtX10_term_3
def qtX10_term_1 : List Nat := qaX10_term_1 ++ qtX10_term_2
def qtX10_term_0 : List Nat := qaX10_term_0 ++ qtX10_term_1
theorem qeX10_term : cX10_term.data.toList.map UInt8.toNat = qtX10_term_0 := by decide +kernel
theorem qsX10_term_0 : ∀ i, dqNth qtX10_term_0 (0 + i) = dqNth qtX10_term_0 i := fun i => by rw [Nat.zero_add]
theorem qsX10_term_1 : ∀ i, dqNth qtX10_term_0 (16 + i) = dqNth qtX10_term_1 i := dq_step qsX10_term_0 rfl rfl
theorem qsX10_term_2 : ∀ i, dqNth qtX10_term_0 (32 + i) = dqNth qtX10_term_2 i := dq_step qsX10_term_1 rfl rfl
theorem qsX10_term_3 : ∀ i, dqNth qtX10_term_0 (48 + i) = dqNth qtX10_term_3 i := dq_step qsX10_term_2 rfl rfl
theorem qsX10_term_4 : ∀ i, dqNth qtX10_term_0 (64 + i) = dqNth qtX10_term_4 i := dq_step qsX10_term_3 rfl rfl
theorem qsX10_term_5 : ∀ i, dqNth qtX10_term_0 (80 + i) = dqNth qtX10_term_5 i := dq_step qsX10_term_4 rfl rfl
theorem qsX10_term_6 : ∀ i, dqNth qtX10_term_0 (96 + i) = dqNth qtX10_term_6 i := dq_step qsX10_term_5 rfl rfl
theorem qsX10_term_7 : ∀ i, dqNth qtX10_term_0 (112 + i) = dqNth qtX10_term_7 i := dq_step qsX10_term_6 rfl rfl
theorem qX10_term_0 (i b : Nat) (h : dqNth qaX10_term_0 i = some b) : DqBy cX10_term (0 + i) b := dqBy_of qeX10_term ((qsX10_term_0 i).trans (dq_in h))
theorem qX10_term_1 (i b : Nat) (h : dqNth qaX10_term_1 i = some b) : DqBy cX10_term (16 + i) b := dqBy_of qeX10_term ((qsX10_term_1 i).trans (dq_in h))
theorem qX10_term_2 (i b : Nat) (h : dqNth qaX10_term_2 i = some b) : DqBy cX10_term (32 + i) b := dqBy_of qeX10_term ((qsX10_term_2 i).trans (dq_in h))
theorem qX10_term_3 (i b : Nat) (h : dqNth qaX10_term_3 i = some b) : DqBy cX10_term (48 + i) b := dqBy_of qeX10_term ((qsX10_term_3 i).trans (dq_in h))
theorem qX10_term_4 (i b : Nat) (h : dqNth qaX10_term_4 i = some b) : DqBy cX10_term (64 + i) b := dqBy_of qeX10_term ((qsX10_term_4 i).trans (dq_in h))
theorem qX10_term_5 (i b : Nat) (h : dqNth qaX10_term_5 i = some b) : DqBy cX10_term (80 + i) b := dqBy_of qeX10_term ((qsX10_term_5 i).trans (dq_in h))
theorem qX10_term_6 (i b : Nat) (h : dqNth qaX10_term_6 i = some b) : DqBy cX10_term (96 + i) b := dqBy_of qeX10_term ((qsX10_term_6 i).trans (dq_in h))
theorem qX10_term_7 (i b : Nat) (h : dqNth qaX10_term_7 i = some b) : DqBy cX10_term (112 + i) b := dqBy_of qeX10_term ((qsX10_term_7 i).trans (dq_in h))
theorem dX10_term_0 : decode cX10_term 0 = .ok (.aload_n 0, 1) := @dq_o42 cX10_term 0 (qX10_term_0 0 42 rfl)
theorem dX10_term_1 : decode cX10_term 1 = .ok (.getfield 12, 3) := @dq_o180 cX10_term 1 0 12 (qX10_term_0 1 180 rfl) (qX10_term_0 2 0 rfl) (qX10_term_0 3 12 rfl)
theorem dX10_term_4 : decode cX10_term 4 = .ok (.getfield 105, 3) := @dq_o180 cX10_term 4 0 105 (qX10_term_0 4 180 rfl) (qX10_term_0 5 0 rfl) (qX10_term_0 6 105 rfl)
theorem dX10_term_7 : decode cX10_term 7 = .ok (.getfield 178, 3) := @dq_o180 cX10_term 7 0 178 (qX10_term_0 7 180 rfl) (qX10_term_0 8 0 rfl) (qX10_term_0 9 178 rfl)
theorem dX10_term_10 : decode cX10_term 10 = .ok (.istore 4, 2) := @dq_o54 cX10_term 10 4 (qX10_term_0 10 54 rfl) (qX10_term_0 11 4 rfl)
theorem dX10_term_12 : decode cX10_term 12 = .ok (.aload_n 0, 1) := @dq_o42 cX10_term 12 (qX10_term_0 12 42 rfl)
theorem dX10_term_13 : decode cX10_term 13 = .ok (.iload_n 1, 1) := @dq_o27 cX10_term 13 (qX10_term_0 13 27 rfl)
theorem dX10_term_14 : decode cX10_term 14 = .ok (.invokevirtual 166, 3) := @dq_o182 cX10_term 14 0 166 (qX10_term_0 14 182 rfl) (qX10_term_0 15 0 rfl) (qX10_term_1 0 166 rfl)
theorem dX10_term_17 : decode cX10_term 17 = .ok (.ifCond .eq 15, 3) := @dq_o153 cX10_term 17 0 15 (qX10_term_1 1 153 rfl) (qX10_term_1 2 0 rfl) (qX10_term_1 3 15 rfl)
theorem dX10_term_20 : decode cX10_term 20 = .ok (.iload_n 3, 1) := @dq_o29 cX10_term 20 (qX10_term_1 4 29 rfl)
theorem dX10_term_21 : decode cX10_term 21 = .ok (.ifCond .lt 11, 3) := @dq_o155 cX10_term 21 0 11 (qX10_term_1 5 155 rfl) (qX10_term_1 6 0 rfl) (qX10_term_1 7 11 rfl)
theorem dX10_term_24 : decode cX10_term 24 = .ok (.iload_n 3, 1) := @dq_o29 cX10_term 24 (qX10_term_1 8 29 rfl)
theorem dX10_term_25 : decode cX10_term 25 = .ok (.iconst 2, 1) := @dq_o5 cX10_term 25 (qX10_term_1 9 5 rfl)
theorem dX10_term_26 : decode cX10_term 26 = .ok (.iload 4, 2) := @dq_o21 cX10_term 26 4 (qX10_term_1 10 21 rfl) (qX10_term_1 11 4 rfl)
theorem dX10_term_28 : decode cX10_term 28 = .ok (.imul, 1) := @dq_o104 cX10_term 28 (qX10_term_1 12 104 rfl)
theorem dX10_term_29 : decode cX10_term 29 = .ok (.if_icmp .le 7, 3) := @dq_o164 cX10_term 29 0 7 (qX10_term_1 13 164 rfl) (qX10_term_1 14 0 rfl) (qX10_term_1 15 7 rfl)
theorem dX10_term_32 : decode cX10_term 32 = .ok (.sipush (-10000), 3) := @dq_o17 cX10_term 32 216 240 (qX10_term_2 0 17 rfl) (qX10_term_2 1 216 rfl) (qX10_term_2 2 240 rfl)
theorem dX10_term_35 : decode cX10_term 35 = .ok (.ireturn, 1) := @dq_o172 cX10_term 35 (qX10_term_2 3 172 rfl)
theorem dX10_term_36 : decode cX10_term 36 = .ok (.aload_n 0, 1) := @dq_o42 cX10_term 36 (qX10_term_2 4 42 rfl)
theorem dX10_term_37 : decode cX10_term 37 = .ok (.getfield 53, 3) := @dq_o180 cX10_term 37 0 53 (qX10_term_2 5 180 rfl) (qX10_term_2 6 0 rfl) (qX10_term_2 7 53 rfl)
theorem dX10_term_40 : decode cX10_term 40 = .ok (.getfield 169, 3) := @dq_o180 cX10_term 40 0 169 (qX10_term_2 8 180 rfl) (qX10_term_2 9 0 rfl) (qX10_term_2 10 169 rfl)
theorem dX10_term_43 : decode cX10_term 43 = .ok (.iload_n 1, 1) := @dq_o27 cX10_term 43 (qX10_term_2 11 27 rfl)
theorem dX10_term_44 : decode cX10_term 44 = .ok (.iconst 1, 1) := @dq_o4 cX10_term 44 (qX10_term_2 12 4 rfl)
theorem dX10_term_45 : decode cX10_term 45 = .ok (.isub, 1) := @dq_o100 cX10_term 45 (qX10_term_2 13 100 rfl)
theorem dX10_term_46 : decode cX10_term 46 = .ok (.aaload, 1) := @dq_o50 cX10_term 46 (qX10_term_2 14 50 rfl)
theorem dX10_term_47 : decode cX10_term 47 = .ok (.astore 5, 2) := @dq_o58 cX10_term 47 5 (qX10_term_2 15 58 rfl) (qX10_term_3 0 5 rfl)
theorem dX10_term_49 : decode cX10_term 49 = .ok (.iload_n 2, 1) := @dq_o28 cX10_term 49 (qX10_term_3 1 28 rfl)
theorem dX10_term_50 : decode cX10_term 50 = .ok (.ifCond .lt 12, 3) := @dq_o155 cX10_term 50 0 12 (qX10_term_3 2 155 rfl) (qX10_term_3 3 0 rfl) (qX10_term_3 4 12 rfl)
theorem dX10_term_53 : decode cX10_term 53 = .ok (.iload_n 2, 1) := @dq_o28 cX10_term 53 (qX10_term_3 5 28 rfl)
theorem dX10_term_54 : decode cX10_term 54 = .ok (.aload 5, 2) := @dq_o25 cX10_term 54 5 (qX10_term_3 6 25 rfl) (qX10_term_3 7 5 rfl)
theorem dX10_term_56 : decode cX10_term 56 = .ok (.getfield 173, 3) := @dq_o180 cX10_term 56 0 173 (qX10_term_3 8 180 rfl) (qX10_term_3 9 0 rfl) (qX10_term_3 10 173 rfl)
theorem dX10_term_59 : decode cX10_term 59 = .ok (.if_icmp .lt 7, 3) := @dq_o161 cX10_term 59 0 7 (qX10_term_3 11 161 rfl) (qX10_term_3 12 0 rfl) (qX10_term_3 13 7 rfl)
theorem dX10_term_62 : decode cX10_term 62 = .ok (.sipush (-10000), 3) := @dq_o17 cX10_term 62 216 240 (qX10_term_3 14 17 rfl) (qX10_term_3 15 216 rfl) (qX10_term_4 0 240 rfl)
theorem dX10_term_65 : decode cX10_term 65 = .ok (.ireturn, 1) := @dq_o172 cX10_term 65 (qX10_term_4 1 172 rfl)
theorem dX10_term_66 : decode cX10_term 66 = .ok (.iload_n 3, 1) := @dq_o29 cX10_term 66 (qX10_term_4 2 29 rfl)
theorem dX10_term_67 : decode cX10_term 67 = .ok (.ifCond .ne 12, 3) := @dq_o154 cX10_term 67 0 12 (qX10_term_4 3 154 rfl) (qX10_term_4 4 0 rfl) (qX10_term_4 5 12 rfl)
theorem dX10_term_70 : decode cX10_term 70 = .ok (.aload 5, 2) := @dq_o25 cX10_term 70 5 (qX10_term_4 6 25 rfl) (qX10_term_4 7 5 rfl)
theorem dX10_term_72 : decode cX10_term 72 = .ok (.getfield 179, 3) := @dq_o180 cX10_term 72 0 179 (qX10_term_4 8 180 rfl) (qX10_term_4 9 0 rfl) (qX10_term_4 10 179 rfl)
theorem dX10_term_75 : decode cX10_term 75 = .ok (.iload_n 2, 1) := @dq_o28 cX10_term 75 (qX10_term_4 11 28 rfl)
theorem dX10_term_76 : decode cX10_term 76 = .ok (.laload, 1) := @dq_o47 cX10_term 76 (qX10_term_4 12 47 rfl)
theorem dX10_term_77 : decode cX10_term 77 = .ok (.l2i, 1) := @dq_o136 cX10_term 77 (qX10_term_4 13 136 rfl)
theorem dX10_term_78 : decode cX10_term 78 = .ok (.ireturn, 1) := @dq_o172 cX10_term 78 (qX10_term_4 14 172 rfl)
theorem dX10_term_79 : decode cX10_term 79 = .ok (.iload_n 3, 1) := @dq_o29 cX10_term 79 (qX10_term_4 15 29 rfl)
theorem dX10_term_80 : decode cX10_term 80 = .ok (.iload 4, 2) := @dq_o21 cX10_term 80 4 (qX10_term_5 0 21 rfl) (qX10_term_5 1 4 rfl)
theorem dX10_term_82 : decode cX10_term 82 = .ok (.if_icmp .gt 9, 3) := @dq_o163 cX10_term 82 0 9 (qX10_term_5 2 163 rfl) (qX10_term_5 3 0 rfl) (qX10_term_5 4 9 rfl)
theorem dX10_term_85 : decode cX10_term 85 = .ok (.iload_n 3, 1) := @dq_o29 cX10_term 85 (qX10_term_5 5 29 rfl)
theorem dX10_term_86 : decode cX10_term 86 = .ok (.iconst 1, 1) := @dq_o4 cX10_term 86 (qX10_term_5 6 4 rfl)
theorem dX10_term_87 : decode cX10_term 87 = .ok (.isub, 1) := @dq_o100 cX10_term 87 (qX10_term_5 7 100 rfl)
theorem dX10_term_88 : decode cX10_term 88 = .ok (.goto 12, 3) := @dq_o167 cX10_term 88 0 12 (qX10_term_5 8 167 rfl) (qX10_term_5 9 0 rfl) (qX10_term_5 10 12 rfl)
theorem dX10_term_91 : decode cX10_term 91 = .ok (.bipush 6, 2) := @dq_o16 cX10_term 91 6 (qX10_term_5 11 16 rfl) (qX10_term_5 12 6 rfl)
theorem dX10_term_93 : decode cX10_term 93 = .ok (.iload_n 3, 1) := @dq_o29 cX10_term 93 (qX10_term_5 13 29 rfl)
theorem dX10_term_94 : decode cX10_term 94 = .ok (.iadd, 1) := @dq_o96 cX10_term 94 (qX10_term_5 14 96 rfl)
theorem dX10_term_95 : decode cX10_term 95 = .ok (.iload 4, 2) := @dq_o21 cX10_term 95 4 (qX10_term_5 15 21 rfl) (qX10_term_6 0 4 rfl)
theorem dX10_term_97 : decode cX10_term 97 = .ok (.isub, 1) := @dq_o100 cX10_term 97 (qX10_term_6 1 100 rfl)
theorem dX10_term_98 : decode cX10_term 98 = .ok (.iconst 1, 1) := @dq_o4 cX10_term 98 (qX10_term_6 2 4 rfl)
theorem dX10_term_99 : decode cX10_term 99 = .ok (.isub, 1) := @dq_o100 cX10_term 99 (qX10_term_6 3 100 rfl)
theorem dX10_term_100 : decode cX10_term 100 = .ok (.istore 6, 2) := @dq_o54 cX10_term 100 6 (qX10_term_6 4 54 rfl) (qX10_term_6 5 6 rfl)
theorem dX10_term_102 : decode cX10_term 102 = .ok (.aload 5, 2) := @dq_o25 cX10_term 102 5 (qX10_term_6 6 25 rfl) (qX10_term_6 7 5 rfl)
theorem dX10_term_104 : decode cX10_term 104 = .ok (.getfield 182, 3) := @dq_o180 cX10_term 104 0 182 (qX10_term_6 8 180 rfl) (qX10_term_6 9 0 rfl) (qX10_term_6 10 182 rfl)
theorem dX10_term_107 : decode cX10_term 107 = .ok (.iload_n 2, 1) := @dq_o28 cX10_term 107 (qX10_term_6 11 28 rfl)
theorem dX10_term_108 : decode cX10_term 108 = .ok (.iaload, 1) := @dq_o46 cX10_term 108 (qX10_term_6 12 46 rfl)
theorem dX10_term_109 : decode cX10_term 109 = .ok (.iload 6, 2) := @dq_o21 cX10_term 109 6 (qX10_term_6 13 21 rfl) (qX10_term_6 14 6 rfl)
theorem dX10_term_111 : decode cX10_term 111 = .ok (.invokestatic 185, 3) := @dq_o184 cX10_term 111 0 185 (qX10_term_6 15 184 rfl) (qX10_term_7 0 0 rfl) (qX10_term_7 1 185 rfl)
theorem dX10_term_114 : decode cX10_term 114 = .ok (.ireturn, 1) := @dq_o172 cX10_term 114 (qX10_term_7 2 172 rfl)
abbrev qaX10_shape_0 : List Nat := [42, 27, 182, 0, 166, 154, 0, 7, 17, 216, 240, 172, 42, 180, 0, 53]
abbrev qaX10_shape_1 : List Nat := [180, 0, 169, 27, 4, 100, 50, 78, 28, 170, 0, 0, 0, 0, 0, 59]
abbrev qaX10_shape_2 : List Nat := [0, 0, 0, 0, 0, 0, 0, 3, 0, 0, 0, 31, 0, 0, 0, 36]
abbrev qaX10_shape_3 : List Nat := [0, 0, 0, 48, 0, 0, 0, 53, 45, 182, 0, 189, 172, 45, 42, 180]
abbrev qaX10_shape_4 : List Nat := [0, 12, 180, 0, 105, 182, 0, 193, 172, 45, 182, 0, 197, 172, 45, 182]
abbrev qaX10_shape_5 : List Nat := [0, 200, 136, 172, 17, 216, 240, 172]
def qtX10_shape_6 : List Nat := []
def qtX10_shape_5 : List Nat := qaX10_shape_5 ++ qtX10_shape_6
def qtX10_shape_4 : List Nat := qaX10_shape_4 ++ qtX10_shape_5
def qtX10_shape_3 : List Nat := qaX10_shape_3 ++ qtX10_shape_4
def qtX10_shape_2 : List Nat := qaX10_shape_2 ++ qtX10_shape_3
def qtX10_shape_1 : List Nat := qaX10_shape_1 ++ qtX10_shape_2
def qtX10_shape_0 : List Nat := qaX10_shape_0 ++ qtX10_shape_1
theorem qeX10_shape : cX10_shape.data.toList.map UInt8.toNat = qtX10_shape_0 := by decide +kernel
theorem qsX10_shape_0 : ∀ i, dqNth qtX10_shape_0 (0 + i) = dqNth qtX10_shape_0 i := fun i => by rw [Nat.zero_add]
theorem qsX10_shape_1 : ∀ i, dqNth qtX10_shape_0 (16 + i) = dqNth qtX10_shape_1 i := dq_step qsX10_shape_0 rfl rfl
theorem qsX10_shape_2 : ∀ i, dqNth qtX10_shape_0 (32 + i) = dqNth qtX10_shape_2 i := dq_step qsX10_shape_1 rfl rfl
theorem qsX10_shape_3 : ∀ i, dqNth qtX10_shape_0 (48 + i) = dqNth qtX10_shape_3 i := dq_step qsX10_shape_2 rfl rfl
theorem qsX10_shape_4 : ∀ i, dqNth qtX10_shape_0 (64 + i) = dqNth qtX10_shape_4 i := dq_step qsX10_shape_3 rfl rfl
theorem qsX10_shape_5 : ∀ i, dqNth qtX10_shape_0 (80 + i) = dqNth qtX10_shape_5 i := dq_step qsX10_shape_4 rfl rfl
theorem qX10_shape_0 (i b : Nat) (h : dqNth qaX10_shape_0 i = some b) : DqBy cX10_shape (0 + i) b := dqBy_of qeX10_shape ((qsX10_shape_0 i).trans (dq_in h))
theorem qX10_shape_1 (i b : Nat) (h : dqNth qaX10_shape_1 i = some b) : DqBy cX10_shape (16 + i) b := dqBy_of qeX10_shape ((qsX10_shape_1 i).trans (dq_in h))
theorem qX10_shape_2 (i b : Nat) (h : dqNth qaX10_shape_2 i = some b) : DqBy cX10_shape (32 + i) b := dqBy_of qeX10_shape ((qsX10_shape_2 i).trans (dq_in h))
theorem qX10_shape_3 (i b : Nat) (h : dqNth qaX10_shape_3 i = some b) : DqBy cX10_shape (48 + i) b := dqBy_of qeX10_shape ((qsX10_shape_3 i).trans (dq_in h))
theorem qX10_shape_4 (i b : Nat) (h : dqNth qaX10_shape_4 i = some b) : DqBy cX10_shape (64 + i) b := dqBy_of qeX10_shape ((qsX10_shape_4 i).trans (dq_in h))
theorem qX10_shape_5 (i b : Nat) (h : dqNth qaX10_shape_5 i = some b) : DqBy cX10_shape (80 + i) b := dqBy_of qeX10_shape ((qsX10_shape_5 i).trans (dq_in h))
theorem dX10_shape_0 : decode cX10_shape 0 = .ok (.aload_n 0, 1) := @dq_o42 cX10_shape 0 (qX10_shape_0 0 42 rfl)
theorem dX10_shape_1 : decode cX10_shape 1 = .ok (.iload_n 1, 1) := @dq_o27 cX10_shape 1 (qX10_shape_0 1 27 rfl)
theorem dX10_shape_2 : decode cX10_shape 2 = .ok (.invokevirtual 166, 3) := @dq_o182 cX10_shape 2 0 166 (qX10_shape_0 2 182 rfl) (qX10_shape_0 3 0 rfl) (qX10_shape_0 4 166 rfl)
theorem dX10_shape_5 : decode cX10_shape 5 = .ok (.ifCond .ne 7, 3) := @dq_o154 cX10_shape 5 0 7 (qX10_shape_0 5 154 rfl) (qX10_shape_0 6 0 rfl) (qX10_shape_0 7 7 rfl)
theorem dX10_shape_8 : decode cX10_shape 8 = .ok (.sipush (-10000), 3) := @dq_o17 cX10_shape 8 216 240 (qX10_shape_0 8 17 rfl) (qX10_shape_0 9 216 rfl) (qX10_shape_0 10 240 rfl)
theorem dX10_shape_11 : decode cX10_shape 11 = .ok (.ireturn, 1) := @dq_o172 cX10_shape 11 (qX10_shape_0 11 172 rfl)
theorem dX10_shape_12 : decode cX10_shape 12 = .ok (.aload_n 0, 1) := @dq_o42 cX10_shape 12 (qX10_shape_0 12 42 rfl)
theorem dX10_shape_13 : decode cX10_shape 13 = .ok (.getfield 53, 3) := @dq_o180 cX10_shape 13 0 53 (qX10_shape_0 13 180 rfl) (qX10_shape_0 14 0 rfl) (qX10_shape_0 15 53 rfl)
theorem dX10_shape_16 : decode cX10_shape 16 = .ok (.getfield 169, 3) := @dq_o180 cX10_shape 16 0 169 (qX10_shape_1 0 180 rfl) (qX10_shape_1 1 0 rfl) (qX10_shape_1 2 169 rfl)
theorem dX10_shape_19 : decode cX10_shape 19 = .ok (.iload_n 1, 1) := @dq_o27 cX10_shape 19 (qX10_shape_1 3 27 rfl)
theorem dX10_shape_20 : decode cX10_shape 20 = .ok (.iconst 1, 1) := @dq_o4 cX10_shape 20 (qX10_shape_1 4 4 rfl)
theorem dX10_shape_21 : decode cX10_shape 21 = .ok (.isub, 1) := @dq_o100 cX10_shape 21 (qX10_shape_1 5 100 rfl)
theorem dX10_shape_22 : decode cX10_shape 22 = .ok (.aaload, 1) := @dq_o50 cX10_shape 22 (qX10_shape_1 6 50 rfl)
theorem dX10_shape_23 : decode cX10_shape 23 = .ok (.astore_n 3, 1) := @dq_o78 cX10_shape 23 (qX10_shape_1 7 78 rfl)
theorem dX10_shape_24 : decode cX10_shape 24 = .ok (.iload_n 2, 1) := @dq_o28 cX10_shape 24 (qX10_shape_1 8 28 rfl)
theorem dX10_shape_25 : decode cX10_shape 25 = .ok (.tableswitch 59 0 3 #[31, 36, 48, 53], 31) := by decide +kernel
theorem dX10_shape_56 : decode cX10_shape 56 = .ok (.aload_n 3, 1) := @dq_o45 cX10_shape 56 (qX10_shape_3 8 45 rfl)
theorem dX10_shape_57 : decode cX10_shape 57 = .ok (.invokevirtual 189, 3) := @dq_o182 cX10_shape 57 0 189 (qX10_shape_3 9 182 rfl) (qX10_shape_3 10 0 rfl) (qX10_shape_3 11 189 rfl)
theorem dX10_shape_60 : decode cX10_shape 60 = .ok (.ireturn, 1) := @dq_o172 cX10_shape 60 (qX10_shape_3 12 172 rfl)
theorem dX10_shape_61 : decode cX10_shape 61 = .ok (.aload_n 3, 1) := @dq_o45 cX10_shape 61 (qX10_shape_3 13 45 rfl)
theorem dX10_shape_62 : decode cX10_shape 62 = .ok (.aload_n 0, 1) := @dq_o42 cX10_shape 62 (qX10_shape_3 14 42 rfl)
theorem dX10_shape_63 : decode cX10_shape 63 = .ok (.getfield 12, 3) := @dq_o180 cX10_shape 63 0 12 (qX10_shape_3 15 180 rfl) (qX10_shape_4 0 0 rfl) (qX10_shape_4 1 12 rfl)
theorem dX10_shape_66 : decode cX10_shape 66 = .ok (.getfield 105, 3) := @dq_o180 cX10_shape 66 0 105 (qX10_shape_4 2 180 rfl) (qX10_shape_4 3 0 rfl) (qX10_shape_4 4 105 rfl)
theorem dX10_shape_69 : decode cX10_shape 69 = .ok (.invokevirtual 193, 3) := @dq_o182 cX10_shape 69 0 193 (qX10_shape_4 5 182 rfl) (qX10_shape_4 6 0 rfl) (qX10_shape_4 7 193 rfl)
theorem dX10_shape_72 : decode cX10_shape 72 = .ok (.ireturn, 1) := @dq_o172 cX10_shape 72 (qX10_shape_4 8 172 rfl)
theorem dX10_shape_73 : decode cX10_shape 73 = .ok (.aload_n 3, 1) := @dq_o45 cX10_shape 73 (qX10_shape_4 9 45 rfl)
theorem dX10_shape_74 : decode cX10_shape 74 = .ok (.invokevirtual 197, 3) := @dq_o182 cX10_shape 74 0 197 (qX10_shape_4 10 182 rfl) (qX10_shape_4 11 0 rfl) (qX10_shape_4 12 197 rfl)
theorem dX10_shape_77 : decode cX10_shape 77 = .ok (.ireturn, 1) := @dq_o172 cX10_shape 77 (qX10_shape_4 13 172 rfl)
theorem dX10_shape_78 : decode cX10_shape 78 = .ok (.aload_n 3, 1) := @dq_o45 cX10_shape 78 (qX10_shape_4 14 45 rfl)
theorem dX10_shape_79 : decode cX10_shape 79 = .ok (.invokevirtual 200, 3) := @dq_o182 cX10_shape 79 0 200 (qX10_shape_4 15 182 rfl) (qX10_shape_5 0 0 rfl) (qX10_shape_5 1 200 rfl)
theorem dX10_shape_82 : decode cX10_shape 82 = .ok (.l2i, 1) := @dq_o136 cX10_shape 82 (qX10_shape_5 2 136 rfl)
theorem dX10_shape_83 : decode cX10_shape 83 = .ok (.ireturn, 1) := @dq_o172 cX10_shape 83 (qX10_shape_5 3 172 rfl)
theorem dX10_shape_84 : decode cX10_shape 84 = .ok (.sipush (-10000), 3) := @dq_o17 cX10_shape 84 216 240 (qX10_shape_5 4 17 rfl) (qX10_shape_5 5 216 rfl) (qX10_shape_5 6 240 rfl)
theorem dX10_shape_87 : decode cX10_shape 87 = .ok (.ireturn, 1) := @dq_o172 cX10_shape 87 (qX10_shape_5 7 172 rfl)
abbrev qaX10_set_0 : List Nat := [27, 184, 0, 204, 153, 0, 21, 42, 28, 182, 0, 148, 153, 0, 13, 42]
abbrev qaX10_set_1 : List Nat := [180, 0, 53, 180, 0, 141, 154, 0, 5, 3, 172, 29, 17, 252, 25, 161]
abbrev qaX10_set_2 : List Nat := [0, 10, 29, 17, 3, 231, 164, 0, 5, 3, 172, 42, 182, 0, 207, 42]
abbrev qaX10_set_3 : List Nat := [180, 0, 12, 180, 0, 210, 27, 50, 28, 4, 100, 29, 133, 80, 4, 172]
def qtX10_set_4 : List Nat := []
def qtX10_set_3 : List Nat := qaX10_set_3 ++ qtX10_set_4
def qtX10_set_2 : List Nat := qaX10_set_2 ++ qtX10_set_3
def qtX10_set_1 : List Nat := qaX10_set_1 ++ qtX10_set_2
def qtX10_set_0 : List Nat := qaX10_set_0 ++ qtX10_set_1
theorem qeX10_set : cX10_set.data.toList.map UInt8.toNat = qtX10_set_0 := by decide +kernel
theorem qsX10_set_0 : ∀ i, dqNth qtX10_set_0 (0 + i) = dqNth qtX10_set_0 i := fun i => by rw [Nat.zero_add]
theorem qsX10_set_1 : ∀ i, dqNth qtX10_set_0 (16 + i) = dqNth qtX10_set_1 i := dq_step qsX10_set_0 rfl rfl
theorem qsX10_set_2 : ∀ i, dqNth qtX10_set_0 (32 + i) = dqNth qtX10_set_2 i := dq_step qsX10_set_1 rfl rfl
theorem qsX10_set_3 : ∀ i, dqNth qtX10_set_0 (48 + i) = dqNth qtX10_set_3 i := dq_step qsX10_set_2 rfl rfl
theorem qX10_set_0 (i b : Nat) (h : dqNth qaX10_set_0 i = some b) : DqBy cX10_set (0 + i) b := dqBy_of qeX10_set ((qsX10_set_0 i).trans (dq_in h))
theorem qX10_set_1 (i b : Nat) (h : dqNth qaX10_set_1 i = some b) : DqBy cX10_set (16 + i) b := dqBy_of qeX10_set ((qsX10_set_1 i).trans (dq_in h))
theorem qX10_set_2 (i b : Nat) (h : dqNth qaX10_set_2 i = some b) : DqBy cX10_set (32 + i) b := dqBy_of qeX10_set ((qsX10_set_2 i).trans (dq_in h))
theorem qX10_set_3 (i b : Nat) (h : dqNth qaX10_set_3 i = some b) : DqBy cX10_set (48 + i) b := dqBy_of qeX10_set ((qsX10_set_3 i).trans (dq_in h))
theorem dX10_set_0 : decode cX10_set 0 = .ok (.iload_n 1, 1) := @dq_o27 cX10_set 0 (qX10_set_0 0 27 rfl)
theorem dX10_set_1 : decode cX10_set 1 = .ok (.invokestatic 204, 3) := @dq_o184 cX10_set 1 0 204 (qX10_set_0 1 184 rfl) (qX10_set_0 2 0 rfl) (qX10_set_0 3 204 rfl)
theorem dX10_set_4 : decode cX10_set 4 = .ok (.ifCond .eq 21, 3) := @dq_o153 cX10_set 4 0 21 (qX10_set_0 4 153 rfl) (qX10_set_0 5 0 rfl) (qX10_set_0 6 21 rfl)
theorem dX10_set_7 : decode cX10_set 7 = .ok (.aload_n 0, 1) := @dq_o42 cX10_set 7 (qX10_set_0 7 42 rfl)
theorem dX10_set_8 : decode cX10_set 8 = .ok (.iload_n 2, 1) := @dq_o28 cX10_set 8 (qX10_set_0 8 28 rfl)
theorem dX10_set_9 : decode cX10_set 9 = .ok (.invokevirtual 148, 3) := @dq_o182 cX10_set 9 0 148 (qX10_set_0 9 182 rfl) (qX10_set_0 10 0 rfl) (qX10_set_0 11 148 rfl)
theorem dX10_set_12 : decode cX10_set 12 = .ok (.ifCond .eq 13, 3) := @dq_o153 cX10_set 12 0 13 (qX10_set_0 12 153 rfl) (qX10_set_0 13 0 rfl) (qX10_set_0 14 13 rfl)
theorem dX10_set_15 : decode cX10_set 15 = .ok (.aload_n 0, 1) := @dq_o42 cX10_set 15 (qX10_set_0 15 42 rfl)
theorem dX10_set_16 : decode cX10_set 16 = .ok (.getfield 53, 3) := @dq_o180 cX10_set 16 0 53 (qX10_set_1 0 180 rfl) (qX10_set_1 1 0 rfl) (qX10_set_1 2 53 rfl)
theorem dX10_set_19 : decode cX10_set 19 = .ok (.getfield 141, 3) := @dq_o180 cX10_set 19 0 141 (qX10_set_1 3 180 rfl) (qX10_set_1 4 0 rfl) (qX10_set_1 5 141 rfl)
theorem dX10_set_22 : decode cX10_set 22 = .ok (.ifCond .ne 5, 3) := @dq_o154 cX10_set 22 0 5 (qX10_set_1 6 154 rfl) (qX10_set_1 7 0 rfl) (qX10_set_1 8 5 rfl)
theorem dX10_set_25 : decode cX10_set 25 = .ok (.iconst 0, 1) := @dq_o3 cX10_set 25 (qX10_set_1 9 3 rfl)
theorem dX10_set_26 : decode cX10_set 26 = .ok (.ireturn, 1) := @dq_o172 cX10_set 26 (qX10_set_1 10 172 rfl)
theorem dX10_set_27 : decode cX10_set 27 = .ok (.iload_n 3, 1) := @dq_o29 cX10_set 27 (qX10_set_1 11 29 rfl)
theorem dX10_set_28 : decode cX10_set 28 = .ok (.sipush (-999), 3) := @dq_o17 cX10_set 28 252 25 (qX10_set_1 12 17 rfl) (qX10_set_1 13 252 rfl) (qX10_set_1 14 25 rfl)
theorem dX10_set_31 : decode cX10_set 31 = .ok (.if_icmp .lt 10, 3) := @dq_o161 cX10_set 31 0 10 (qX10_set_1 15 161 rfl) (qX10_set_2 0 0 rfl) (qX10_set_2 1 10 rfl)
theorem dX10_set_34 : decode cX10_set 34 = .ok (.iload_n 3, 1) := @dq_o29 cX10_set 34 (qX10_set_2 2 29 rfl)
theorem dX10_set_35 : decode cX10_set 35 = .ok (.sipush 999, 3) := @dq_o17 cX10_set 35 3 231 (qX10_set_2 3 17 rfl) (qX10_set_2 4 3 rfl) (qX10_set_2 5 231 rfl)
theorem dX10_set_38 : decode cX10_set 38 = .ok (.if_icmp .le 5, 3) := @dq_o164 cX10_set 38 0 5 (qX10_set_2 6 164 rfl) (qX10_set_2 7 0 rfl) (qX10_set_2 8 5 rfl)
theorem dX10_set_41 : decode cX10_set 41 = .ok (.iconst 0, 1) := @dq_o3 cX10_set 41 (qX10_set_2 9 3 rfl)
theorem dX10_set_42 : decode cX10_set 42 = .ok (.ireturn, 1) := @dq_o172 cX10_set 42 (qX10_set_2 10 172 rfl)
theorem dX10_set_43 : decode cX10_set 43 = .ok (.aload_n 0, 1) := @dq_o42 cX10_set 43 (qX10_set_2 11 42 rfl)
theorem dX10_set_44 : decode cX10_set 44 = .ok (.invokevirtual 207, 3) := @dq_o182 cX10_set 44 0 207 (qX10_set_2 12 182 rfl) (qX10_set_2 13 0 rfl) (qX10_set_2 14 207 rfl)
theorem dX10_set_47 : decode cX10_set 47 = .ok (.aload_n 0, 1) := @dq_o42 cX10_set 47 (qX10_set_2 15 42 rfl)
theorem dX10_set_48 : decode cX10_set 48 = .ok (.getfield 12, 3) := @dq_o180 cX10_set 48 0 12 (qX10_set_3 0 180 rfl) (qX10_set_3 1 0 rfl) (qX10_set_3 2 12 rfl)
theorem dX10_set_51 : decode cX10_set 51 = .ok (.getfield 210, 3) := @dq_o180 cX10_set 51 0 210 (qX10_set_3 3 180 rfl) (qX10_set_3 4 0 rfl) (qX10_set_3 5 210 rfl)
theorem dX10_set_54 : decode cX10_set 54 = .ok (.iload_n 1, 1) := @dq_o27 cX10_set 54 (qX10_set_3 6 27 rfl)
theorem dX10_set_55 : decode cX10_set 55 = .ok (.aaload, 1) := @dq_o50 cX10_set 55 (qX10_set_3 7 50 rfl)
theorem dX10_set_56 : decode cX10_set 56 = .ok (.iload_n 2, 1) := @dq_o28 cX10_set 56 (qX10_set_3 8 28 rfl)
theorem dX10_set_57 : decode cX10_set 57 = .ok (.iconst 1, 1) := @dq_o4 cX10_set 57 (qX10_set_3 9 4 rfl)
theorem dX10_set_58 : decode cX10_set 58 = .ok (.isub, 1) := @dq_o100 cX10_set 58 (qX10_set_3 10 100 rfl)
theorem dX10_set_59 : decode cX10_set 59 = .ok (.iload_n 3, 1) := @dq_o29 cX10_set 59 (qX10_set_3 11 29 rfl)
theorem dX10_set_60 : decode cX10_set 60 = .ok (.i2l, 1) := @dq_o133 cX10_set 60 (qX10_set_3 12 133 rfl)
theorem dX10_set_61 : decode cX10_set 61 = .ok (.lastore, 1) := @dq_o80 cX10_set 61 (qX10_set_3 13 80 rfl)
theorem dX10_set_62 : decode cX10_set 62 = .ok (.iconst 1, 1) := @dq_o4 cX10_set 62 (qX10_set_3 14 4 rfl)
theorem dX10_set_63 : decode cX10_set 63 = .ok (.ireturn, 1) := @dq_o172 cX10_set 63 (qX10_set_3 15 172 rfl)
abbrev qaX10_multiply_0 : List Nat := [42, 27, 28, 182, 0, 214, 153, 0, 10, 29, 184, 0, 204, 154, 0, 5]
abbrev qaX10_multiply_1 : List Nat := [3, 172, 42, 180, 0, 62, 42, 180, 0, 98, 42, 180, 0, 12, 180, 0]
abbrev qaX10_multiply_2 : List Nat := [210, 28, 50, 42, 180, 0, 12, 180, 0, 210, 29, 50, 182, 0, 217, 42]
abbrev qaX10_multiply_3 : List Nat := [27, 182, 0, 221, 172]
def qtX10_multiply_4 : List Nat := []
def qtX10_multiply_3 : List Nat := qaX10_multiply_3 ++ qtX10_multiply_4
def qtX10_multiply_2 : List Nat := qaX10_multiply_2 ++ qtX10_multiply_3
def qtX10_multiply_1 : List Nat := qaX10_multiply_1 ++ qtX10_multiply_2
def qtX10_multiply_0 : List Nat := qaX10_multiply_0 ++ qtX10_multiply_1
theorem qeX10_multiply : cX10_multiply.data.toList.map UInt8.toNat = qtX10_multiply_0 := by decide +kernel
theorem qsX10_multiply_0 : ∀ i, dqNth qtX10_multiply_0 (0 + i) = dqNth qtX10_multiply_0 i := fun i => by rw [Nat.zero_add]
theorem qsX10_multiply_1 : ∀ i, dqNth qtX10_multiply_0 (16 + i) = dqNth qtX10_multiply_1 i := dq_step qsX10_multiply_0 rfl rfl
theorem qsX10_multiply_2 : ∀ i, dqNth qtX10_multiply_0 (32 + i) = dqNth qtX10_multiply_2 i := dq_step qsX10_multiply_1 rfl rfl
theorem qsX10_multiply_3 : ∀ i, dqNth qtX10_multiply_0 (48 + i) = dqNth qtX10_multiply_3 i := dq_step qsX10_multiply_2 rfl rfl
theorem qX10_multiply_0 (i b : Nat) (h : dqNth qaX10_multiply_0 i = some b) : DqBy cX10_multiply (0 + i) b := dqBy_of qeX10_multiply ((qsX10_multiply_0 i).trans (dq_in h))
theorem qX10_multiply_1 (i b : Nat) (h : dqNth qaX10_multiply_1 i = some b) : DqBy cX10_multiply (16 + i) b := dqBy_of qeX10_multiply ((qsX10_multiply_1 i).trans (dq_in h))
theorem qX10_multiply_2 (i b : Nat) (h : dqNth qaX10_multiply_2 i = some b) : DqBy cX10_multiply (32 + i) b := dqBy_of qeX10_multiply ((qsX10_multiply_2 i).trans (dq_in h))
theorem qX10_multiply_3 (i b : Nat) (h : dqNth qaX10_multiply_3 i = some b) : DqBy cX10_multiply (48 + i) b := dqBy_of qeX10_multiply ((qsX10_multiply_3 i).trans (dq_in h))
theorem dX10_multiply_0 : decode cX10_multiply 0 = .ok (.aload_n 0, 1) := @dq_o42 cX10_multiply 0 (qX10_multiply_0 0 42 rfl)
theorem dX10_multiply_1 : decode cX10_multiply 1 = .ok (.iload_n 1, 1) := @dq_o27 cX10_multiply 1 (qX10_multiply_0 1 27 rfl)
theorem dX10_multiply_2 : decode cX10_multiply 2 = .ok (.iload_n 2, 1) := @dq_o28 cX10_multiply 2 (qX10_multiply_0 2 28 rfl)
theorem dX10_multiply_3 : decode cX10_multiply 3 = .ok (.invokevirtual 214, 3) := @dq_o182 cX10_multiply 3 0 214 (qX10_multiply_0 3 182 rfl) (qX10_multiply_0 4 0 rfl) (qX10_multiply_0 5 214 rfl)
theorem dX10_multiply_6 : decode cX10_multiply 6 = .ok (.ifCond .eq 10, 3) := @dq_o153 cX10_multiply 6 0 10 (qX10_multiply_0 6 153 rfl) (qX10_multiply_0 7 0 rfl) (qX10_multiply_0 8 10 rfl)
theorem dX10_multiply_9 : decode cX10_multiply 9 = .ok (.iload_n 3, 1) := @dq_o29 cX10_multiply 9 (qX10_multiply_0 9 29 rfl)
theorem dX10_multiply_10 : decode cX10_multiply 10 = .ok (.invokestatic 204, 3) := @dq_o184 cX10_multiply 10 0 204 (qX10_multiply_0 10 184 rfl) (qX10_multiply_0 11 0 rfl) (qX10_multiply_0 12 204 rfl)
theorem dX10_multiply_13 : decode cX10_multiply 13 = .ok (.ifCond .ne 5, 3) := @dq_o154 cX10_multiply 13 0 5 (qX10_multiply_0 13 154 rfl) (qX10_multiply_0 14 0 rfl) (qX10_multiply_0 15 5 rfl)
theorem dX10_multiply_16 : decode cX10_multiply 16 = .ok (.iconst 0, 1) := @dq_o3 cX10_multiply 16 (qX10_multiply_1 0 3 rfl)
theorem dX10_multiply_17 : decode cX10_multiply 17 = .ok (.ireturn, 1) := @dq_o172 cX10_multiply 17 (qX10_multiply_1 1 172 rfl)
theorem dX10_multiply_18 : decode cX10_multiply 18 = .ok (.aload_n 0, 1) := @dq_o42 cX10_multiply 18 (qX10_multiply_1 2 42 rfl)
theorem dX10_multiply_19 : decode cX10_multiply 19 = .ok (.getfield 62, 3) := @dq_o180 cX10_multiply 19 0 62 (qX10_multiply_1 3 180 rfl) (qX10_multiply_1 4 0 rfl) (qX10_multiply_1 5 62 rfl)
theorem dX10_multiply_22 : decode cX10_multiply 22 = .ok (.aload_n 0, 1) := @dq_o42 cX10_multiply 22 (qX10_multiply_1 6 42 rfl)
theorem dX10_multiply_23 : decode cX10_multiply 23 = .ok (.getfield 98, 3) := @dq_o180 cX10_multiply 23 0 98 (qX10_multiply_1 7 180 rfl) (qX10_multiply_1 8 0 rfl) (qX10_multiply_1 9 98 rfl)
theorem dX10_multiply_26 : decode cX10_multiply 26 = .ok (.aload_n 0, 1) := @dq_o42 cX10_multiply 26 (qX10_multiply_1 10 42 rfl)
theorem dX10_multiply_27 : decode cX10_multiply 27 = .ok (.getfield 12, 3) := @dq_o180 cX10_multiply 27 0 12 (qX10_multiply_1 11 180 rfl) (qX10_multiply_1 12 0 rfl) (qX10_multiply_1 13 12 rfl)
theorem dX10_multiply_30 : decode cX10_multiply 30 = .ok (.getfield 210, 3) := @dq_o180 cX10_multiply 30 0 210 (qX10_multiply_1 14 180 rfl) (qX10_multiply_1 15 0 rfl) (qX10_multiply_2 0 210 rfl)
theorem dX10_multiply_33 : decode cX10_multiply 33 = .ok (.iload_n 2, 1) := @dq_o28 cX10_multiply 33 (qX10_multiply_2 1 28 rfl)
theorem dX10_multiply_34 : decode cX10_multiply 34 = .ok (.aaload, 1) := @dq_o50 cX10_multiply 34 (qX10_multiply_2 2 50 rfl)
theorem dX10_multiply_35 : decode cX10_multiply 35 = .ok (.aload_n 0, 1) := @dq_o42 cX10_multiply 35 (qX10_multiply_2 3 42 rfl)
theorem dX10_multiply_36 : decode cX10_multiply 36 = .ok (.getfield 12, 3) := @dq_o180 cX10_multiply 36 0 12 (qX10_multiply_2 4 180 rfl) (qX10_multiply_2 5 0 rfl) (qX10_multiply_2 6 12 rfl)
theorem dX10_multiply_39 : decode cX10_multiply 39 = .ok (.getfield 210, 3) := @dq_o180 cX10_multiply 39 0 210 (qX10_multiply_2 7 180 rfl) (qX10_multiply_2 8 0 rfl) (qX10_multiply_2 9 210 rfl)
theorem dX10_multiply_42 : decode cX10_multiply 42 = .ok (.iload_n 3, 1) := @dq_o29 cX10_multiply 42 (qX10_multiply_2 10 29 rfl)
theorem dX10_multiply_43 : decode cX10_multiply 43 = .ok (.aaload, 1) := @dq_o50 cX10_multiply 43 (qX10_multiply_2 11 50 rfl)
theorem dX10_multiply_44 : decode cX10_multiply 44 = .ok (.invokevirtual 217, 3) := @dq_o182 cX10_multiply 44 0 217 (qX10_multiply_2 12 182 rfl) (qX10_multiply_2 13 0 rfl) (qX10_multiply_2 14 217 rfl)
theorem dX10_multiply_47 : decode cX10_multiply 47 = .ok (.aload_n 0, 1) := @dq_o42 cX10_multiply 47 (qX10_multiply_2 15 42 rfl)
theorem dX10_multiply_48 : decode cX10_multiply 48 = .ok (.iload_n 1, 1) := @dq_o27 cX10_multiply 48 (qX10_multiply_3 0 27 rfl)
theorem dX10_multiply_49 : decode cX10_multiply 49 = .ok (.invokevirtual 221, 3) := @dq_o182 cX10_multiply 49 0 221 (qX10_multiply_3 1 182 rfl) (qX10_multiply_3 2 0 rfl) (qX10_multiply_3 3 221 rfl)
theorem dX10_multiply_52 : decode cX10_multiply 52 = .ok (.ireturn, 1) := @dq_o172 cX10_multiply 52 (qX10_multiply_3 4 172 rfl)
abbrev qaX10_invert_0 : List Nat := [42, 27, 28, 182, 0, 214, 154, 0, 5, 3, 172, 42, 180, 0, 62, 42]
abbrev qaX10_invert_1 : List Nat := [180, 0, 98, 42, 180, 0, 12, 180, 0, 210, 28, 50, 182, 0, 224, 42]
abbrev qaX10_invert_2 : List Nat := [27, 182, 0, 221, 172]
def qtX10_invert_3 : List Nat := []
def qtX10_invert_2 : List Nat := qaX10_invert_2 ++ qtX10_invert_3
def qtX10_invert_1 : List Nat := qaX10_invert_1 ++ qtX10_invert_2
def qtX10_invert_0 : List Nat := qaX10_invert_0 ++ qtX10_invert_1
theorem qeX10_invert : cX10_invert.data.toList.map UInt8.toNat = qtX10_invert_0 := by decide +kernel
theorem qsX10_invert_0 : ∀ i, dqNth qtX10_invert_0 (0 + i) = dqNth qtX10_invert_0 i := fun i => by rw [Nat.zero_add]
theorem qsX10_invert_1 : ∀ i, dqNth qtX10_invert_0 (16 + i) = dqNth qtX10_invert_1 i := dq_step qsX10_invert_0 rfl rfl
theorem qsX10_invert_2 : ∀ i, dqNth qtX10_invert_0 (32 + i) = dqNth qtX10_invert_2 i := dq_step qsX10_invert_1 rfl rfl
theorem qX10_invert_0 (i b : Nat) (h : dqNth qaX10_invert_0 i = some b) : DqBy cX10_invert (0 + i) b := dqBy_of qeX10_invert ((qsX10_invert_0 i).trans (dq_in h))
theorem qX10_invert_1 (i b : Nat) (h : dqNth qaX10_invert_1 i = some b) : DqBy cX10_invert (16 + i) b := dqBy_of qeX10_invert ((qsX10_invert_1 i).trans (dq_in h))
theorem qX10_invert_2 (i b : Nat) (h : dqNth qaX10_invert_2 i = some b) : DqBy cX10_invert (32 + i) b := dqBy_of qeX10_invert ((qsX10_invert_2 i).trans (dq_in h))
theorem dX10_invert_0 : decode cX10_invert 0 = .ok (.aload_n 0, 1) := @dq_o42 cX10_invert 0 (qX10_invert_0 0 42 rfl)
theorem dX10_invert_1 : decode cX10_invert 1 = .ok (.iload_n 1, 1) := @dq_o27 cX10_invert 1 (qX10_invert_0 1 27 rfl)
theorem dX10_invert_2 : decode cX10_invert 2 = .ok (.iload_n 2, 1) := @dq_o28 cX10_invert 2 (qX10_invert_0 2 28 rfl)
theorem dX10_invert_3 : decode cX10_invert 3 = .ok (.invokevirtual 214, 3) := @dq_o182 cX10_invert 3 0 214 (qX10_invert_0 3 182 rfl) (qX10_invert_0 4 0 rfl) (qX10_invert_0 5 214 rfl)
theorem dX10_invert_6 : decode cX10_invert 6 = .ok (.ifCond .ne 5, 3) := @dq_o154 cX10_invert 6 0 5 (qX10_invert_0 6 154 rfl) (qX10_invert_0 7 0 rfl) (qX10_invert_0 8 5 rfl)
theorem dX10_invert_9 : decode cX10_invert 9 = .ok (.iconst 0, 1) := @dq_o3 cX10_invert 9 (qX10_invert_0 9 3 rfl)
theorem dX10_invert_10 : decode cX10_invert 10 = .ok (.ireturn, 1) := @dq_o172 cX10_invert 10 (qX10_invert_0 10 172 rfl)
theorem dX10_invert_11 : decode cX10_invert 11 = .ok (.aload_n 0, 1) := @dq_o42 cX10_invert 11 (qX10_invert_0 11 42 rfl)
theorem dX10_invert_12 : decode cX10_invert 12 = .ok (.getfield 62, 3) := @dq_o180 cX10_invert 12 0 62 (qX10_invert_0 12 180 rfl) (qX10_invert_0 13 0 rfl) (qX10_invert_0 14 62 rfl)
theorem dX10_invert_15 : decode cX10_invert 15 = .ok (.aload_n 0, 1) := @dq_o42 cX10_invert 15 (qX10_invert_0 15 42 rfl)
theorem dX10_invert_16 : decode cX10_invert 16 = .ok (.getfield 98, 3) := @dq_o180 cX10_invert 16 0 98 (qX10_invert_1 0 180 rfl) (qX10_invert_1 1 0 rfl) (qX10_invert_1 2 98 rfl)
theorem dX10_invert_19 : decode cX10_invert 19 = .ok (.aload_n 0, 1) := @dq_o42 cX10_invert 19 (qX10_invert_1 3 42 rfl)
theorem dX10_invert_20 : decode cX10_invert 20 = .ok (.getfield 12, 3) := @dq_o180 cX10_invert 20 0 12 (qX10_invert_1 4 180 rfl) (qX10_invert_1 5 0 rfl) (qX10_invert_1 6 12 rfl)
theorem dX10_invert_23 : decode cX10_invert 23 = .ok (.getfield 210, 3) := @dq_o180 cX10_invert 23 0 210 (qX10_invert_1 7 180 rfl) (qX10_invert_1 8 0 rfl) (qX10_invert_1 9 210 rfl)
theorem dX10_invert_26 : decode cX10_invert 26 = .ok (.iload_n 2, 1) := @dq_o28 cX10_invert 26 (qX10_invert_1 10 28 rfl)
theorem dX10_invert_27 : decode cX10_invert 27 = .ok (.aaload, 1) := @dq_o50 cX10_invert 27 (qX10_invert_1 11 50 rfl)
theorem dX10_invert_28 : decode cX10_invert 28 = .ok (.invokevirtual 224, 3) := @dq_o182 cX10_invert 28 0 224 (qX10_invert_1 12 182 rfl) (qX10_invert_1 13 0 rfl) (qX10_invert_1 14 224 rfl)
theorem dX10_invert_31 : decode cX10_invert 31 = .ok (.aload_n 0, 1) := @dq_o42 cX10_invert 31 (qX10_invert_1 15 42 rfl)
theorem dX10_invert_32 : decode cX10_invert 32 = .ok (.iload_n 1, 1) := @dq_o27 cX10_invert 32 (qX10_invert_2 0 27 rfl)
theorem dX10_invert_33 : decode cX10_invert 33 = .ok (.invokevirtual 221, 3) := @dq_o182 cX10_invert 33 0 221 (qX10_invert_2 1 182 rfl) (qX10_invert_2 2 0 rfl) (qX10_invert_2 3 221 rfl)
theorem dX10_invert_36 : decode cX10_invert 36 = .ok (.ireturn, 1) := @dq_o172 cX10_invert 36 (qX10_invert_2 4 172 rfl)
abbrev qaX10_power_0 : List Nat := [42, 27, 28, 182, 0, 214, 153, 0, 15, 29, 16, 157, 161, 0, 9, 29]
abbrev qaX10_power_1 : List Nat := [16, 99, 164, 0, 5, 3, 172, 42, 180, 0, 62, 42, 180, 0, 98, 42]
abbrev qaX10_power_2 : List Nat := [180, 0, 12, 180, 0, 210, 28, 50, 29, 133, 182, 0, 228, 42, 27, 182]
abbrev qaX10_power_3 : List Nat := [0, 221, 172]
def qtX10_power_4 : List Nat := []
def qtX10_power_3 : List Nat := qaX10_power_3 ++ qtX10_power_4
def qtX10_power_2 : List Nat := qaX10_power_2 ++ qtX10_power_3
def qtX10_power_1 : List Nat := qaX10_power_1 ++ qtX10_power_2
def qtX10_power_0 : List Nat := qaX10_power_0 ++ qtX10_power_1
theorem qeX10_power : cX10_power.data.toList.map UInt8.toNat = qtX10_power_0 := by decide +kernel
theorem qsX10_power_0 : ∀ i, dqNth qtX10_power_0 (0 + i) = dqNth qtX10_power_0 i := fun i => by rw [Nat.zero_add]
theorem qsX10_power_1 : ∀ i, dqNth qtX10_power_0 (16 + i) = dqNth qtX10_power_1 i := dq_step qsX10_power_0 rfl rfl
theorem qsX10_power_2 : ∀ i, dqNth qtX10_power_0 (32 + i) = dqNth qtX10_power_2 i := dq_step qsX10_power_1 rfl rfl
theorem qsX10_power_3 : ∀ i, dqNth qtX10_power_0 (48 + i) = dqNth qtX10_power_3 i := dq_step qsX10_power_2 rfl rfl
theorem qX10_power_0 (i b : Nat) (h : dqNth qaX10_power_0 i = some b) : DqBy cX10_power (0 + i) b := dqBy_of qeX10_power ((qsX10_power_0 i).trans (dq_in h))
theorem qX10_power_1 (i b : Nat) (h : dqNth qaX10_power_1 i = some b) : DqBy cX10_power (16 + i) b := dqBy_of qeX10_power ((qsX10_power_1 i).trans (dq_in h))
theorem qX10_power_2 (i b : Nat) (h : dqNth qaX10_power_2 i = some b) : DqBy cX10_power (32 + i) b := dqBy_of qeX10_power ((qsX10_power_2 i).trans (dq_in h))
theorem qX10_power_3 (i b : Nat) (h : dqNth qaX10_power_3 i = some b) : DqBy cX10_power (48 + i) b := dqBy_of qeX10_power ((qsX10_power_3 i).trans (dq_in h))
theorem dX10_power_0 : decode cX10_power 0 = .ok (.aload_n 0, 1) := @dq_o42 cX10_power 0 (qX10_power_0 0 42 rfl)
theorem dX10_power_1 : decode cX10_power 1 = .ok (.iload_n 1, 1) := @dq_o27 cX10_power 1 (qX10_power_0 1 27 rfl)
theorem dX10_power_2 : decode cX10_power 2 = .ok (.iload_n 2, 1) := @dq_o28 cX10_power 2 (qX10_power_0 2 28 rfl)
theorem dX10_power_3 : decode cX10_power 3 = .ok (.invokevirtual 214, 3) := @dq_o182 cX10_power 3 0 214 (qX10_power_0 3 182 rfl) (qX10_power_0 4 0 rfl) (qX10_power_0 5 214 rfl)
theorem dX10_power_6 : decode cX10_power 6 = .ok (.ifCond .eq 15, 3) := @dq_o153 cX10_power 6 0 15 (qX10_power_0 6 153 rfl) (qX10_power_0 7 0 rfl) (qX10_power_0 8 15 rfl)
theorem dX10_power_9 : decode cX10_power 9 = .ok (.iload_n 3, 1) := @dq_o29 cX10_power 9 (qX10_power_0 9 29 rfl)
theorem dX10_power_10 : decode cX10_power 10 = .ok (.bipush (-99), 2) := @dq_o16 cX10_power 10 157 (qX10_power_0 10 16 rfl) (qX10_power_0 11 157 rfl)
theorem dX10_power_12 : decode cX10_power 12 = .ok (.if_icmp .lt 9, 3) := @dq_o161 cX10_power 12 0 9 (qX10_power_0 12 161 rfl) (qX10_power_0 13 0 rfl) (qX10_power_0 14 9 rfl)
theorem dX10_power_15 : decode cX10_power 15 = .ok (.iload_n 3, 1) := @dq_o29 cX10_power 15 (qX10_power_0 15 29 rfl)
theorem dX10_power_16 : decode cX10_power 16 = .ok (.bipush 99, 2) := @dq_o16 cX10_power 16 99 (qX10_power_1 0 16 rfl) (qX10_power_1 1 99 rfl)
theorem dX10_power_18 : decode cX10_power 18 = .ok (.if_icmp .le 5, 3) := @dq_o164 cX10_power 18 0 5 (qX10_power_1 2 164 rfl) (qX10_power_1 3 0 rfl) (qX10_power_1 4 5 rfl)
theorem dX10_power_21 : decode cX10_power 21 = .ok (.iconst 0, 1) := @dq_o3 cX10_power 21 (qX10_power_1 5 3 rfl)
theorem dX10_power_22 : decode cX10_power 22 = .ok (.ireturn, 1) := @dq_o172 cX10_power 22 (qX10_power_1 6 172 rfl)
theorem dX10_power_23 : decode cX10_power 23 = .ok (.aload_n 0, 1) := @dq_o42 cX10_power 23 (qX10_power_1 7 42 rfl)
theorem dX10_power_24 : decode cX10_power 24 = .ok (.getfield 62, 3) := @dq_o180 cX10_power 24 0 62 (qX10_power_1 8 180 rfl) (qX10_power_1 9 0 rfl) (qX10_power_1 10 62 rfl)
theorem dX10_power_27 : decode cX10_power 27 = .ok (.aload_n 0, 1) := @dq_o42 cX10_power 27 (qX10_power_1 11 42 rfl)
theorem dX10_power_28 : decode cX10_power 28 = .ok (.getfield 98, 3) := @dq_o180 cX10_power 28 0 98 (qX10_power_1 12 180 rfl) (qX10_power_1 13 0 rfl) (qX10_power_1 14 98 rfl)
theorem dX10_power_31 : decode cX10_power 31 = .ok (.aload_n 0, 1) := @dq_o42 cX10_power 31 (qX10_power_1 15 42 rfl)
theorem dX10_power_32 : decode cX10_power 32 = .ok (.getfield 12, 3) := @dq_o180 cX10_power 32 0 12 (qX10_power_2 0 180 rfl) (qX10_power_2 1 0 rfl) (qX10_power_2 2 12 rfl)
theorem dX10_power_35 : decode cX10_power 35 = .ok (.getfield 210, 3) := @dq_o180 cX10_power 35 0 210 (qX10_power_2 3 180 rfl) (qX10_power_2 4 0 rfl) (qX10_power_2 5 210 rfl)
theorem dX10_power_38 : decode cX10_power 38 = .ok (.iload_n 2, 1) := @dq_o28 cX10_power 38 (qX10_power_2 6 28 rfl)
theorem dX10_power_39 : decode cX10_power 39 = .ok (.aaload, 1) := @dq_o50 cX10_power 39 (qX10_power_2 7 50 rfl)
theorem dX10_power_40 : decode cX10_power 40 = .ok (.iload_n 3, 1) := @dq_o29 cX10_power 40 (qX10_power_2 8 29 rfl)
theorem dX10_power_41 : decode cX10_power 41 = .ok (.i2l, 1) := @dq_o133 cX10_power 41 (qX10_power_2 9 133 rfl)
theorem dX10_power_42 : decode cX10_power 42 = .ok (.invokevirtual 228, 3) := @dq_o182 cX10_power 42 0 228 (qX10_power_2 10 182 rfl) (qX10_power_2 11 0 rfl) (qX10_power_2 12 228 rfl)
theorem dX10_power_45 : decode cX10_power 45 = .ok (.aload_n 0, 1) := @dq_o42 cX10_power 45 (qX10_power_2 13 42 rfl)
theorem dX10_power_46 : decode cX10_power 46 = .ok (.iload_n 1, 1) := @dq_o27 cX10_power 46 (qX10_power_2 14 27 rfl)
theorem dX10_power_47 : decode cX10_power 47 = .ok (.invokevirtual 221, 3) := @dq_o182 cX10_power 47 0 221 (qX10_power_2 15 182 rfl) (qX10_power_3 0 0 rfl) (qX10_power_3 1 221 rfl)
theorem dX10_power_50 : decode cX10_power 50 = .ok (.ireturn, 1) := @dq_o172 cX10_power 50 (qX10_power_3 2 172 rfl)
abbrev qaX10_commute_0 : List Nat := [42, 27, 28, 182, 0, 214, 153, 0, 10, 29, 184, 0, 204, 154, 0, 5]
abbrev qaX10_commute_1 : List Nat := [3, 172, 42, 180, 0, 62, 42, 180, 0, 98, 42, 180, 0, 12, 180, 0]
abbrev qaX10_commute_2 : List Nat := [210, 28, 50, 42, 180, 0, 12, 180, 0, 210, 29, 50, 182, 0, 232, 42]
abbrev qaX10_commute_3 : List Nat := [27, 182, 0, 221, 172]
def qtX10_commute_4 : List Nat := []
def qtX10_commute_3 : List Nat := qaX10_commute_3 ++ qtX10_commute_4
def qtX10_commute_2 : List Nat := qaX10_commute_2 ++ qtX10_commute_3
def qtX10_commute_1 : List Nat := qaX10_commute_1 ++ qtX10_commute_2
def qtX10_commute_0 : List Nat := qaX10_commute_0 ++ qtX10_commute_1
theorem qeX10_commute : cX10_commute.data.toList.map UInt8.toNat = qtX10_commute_0 := by decide +kernel
theorem qsX10_commute_0 : ∀ i, dqNth qtX10_commute_0 (0 + i) = dqNth qtX10_commute_0 i := fun i => by rw [Nat.zero_add]
theorem qsX10_commute_1 : ∀ i, dqNth qtX10_commute_0 (16 + i) = dqNth qtX10_commute_1 i := dq_step qsX10_commute_0 rfl rfl
theorem qsX10_commute_2 : ∀ i, dqNth qtX10_commute_0 (32 + i) = dqNth qtX10_commute_2 i := dq_step qsX10_commute_1 rfl rfl
theorem qsX10_commute_3 : ∀ i, dqNth qtX10_commute_0 (48 + i) = dqNth qtX10_commute_3 i := dq_step qsX10_commute_2 rfl rfl
theorem qX10_commute_0 (i b : Nat) (h : dqNth qaX10_commute_0 i = some b) : DqBy cX10_commute (0 + i) b := dqBy_of qeX10_commute ((qsX10_commute_0 i).trans (dq_in h))
theorem qX10_commute_1 (i b : Nat) (h : dqNth qaX10_commute_1 i = some b) : DqBy cX10_commute (16 + i) b := dqBy_of qeX10_commute ((qsX10_commute_1 i).trans (dq_in h))
theorem qX10_commute_2 (i b : Nat) (h : dqNth qaX10_commute_2 i = some b) : DqBy cX10_commute (32 + i) b := dqBy_of qeX10_commute ((qsX10_commute_2 i).trans (dq_in h))
theorem qX10_commute_3 (i b : Nat) (h : dqNth qaX10_commute_3 i = some b) : DqBy cX10_commute (48 + i) b := dqBy_of qeX10_commute ((qsX10_commute_3 i).trans (dq_in h))
theorem dX10_commute_0 : decode cX10_commute 0 = .ok (.aload_n 0, 1) := @dq_o42 cX10_commute 0 (qX10_commute_0 0 42 rfl)
theorem dX10_commute_1 : decode cX10_commute 1 = .ok (.iload_n 1, 1) := @dq_o27 cX10_commute 1 (qX10_commute_0 1 27 rfl)
theorem dX10_commute_2 : decode cX10_commute 2 = .ok (.iload_n 2, 1) := @dq_o28 cX10_commute 2 (qX10_commute_0 2 28 rfl)
theorem dX10_commute_3 : decode cX10_commute 3 = .ok (.invokevirtual 214, 3) := @dq_o182 cX10_commute 3 0 214 (qX10_commute_0 3 182 rfl) (qX10_commute_0 4 0 rfl) (qX10_commute_0 5 214 rfl)
theorem dX10_commute_6 : decode cX10_commute 6 = .ok (.ifCond .eq 10, 3) := @dq_o153 cX10_commute 6 0 10 (qX10_commute_0 6 153 rfl) (qX10_commute_0 7 0 rfl) (qX10_commute_0 8 10 rfl)
theorem dX10_commute_9 : decode cX10_commute 9 = .ok (.iload_n 3, 1) := @dq_o29 cX10_commute 9 (qX10_commute_0 9 29 rfl)
theorem dX10_commute_10 : decode cX10_commute 10 = .ok (.invokestatic 204, 3) := @dq_o184 cX10_commute 10 0 204 (qX10_commute_0 10 184 rfl) (qX10_commute_0 11 0 rfl) (qX10_commute_0 12 204 rfl)
theorem dX10_commute_13 : decode cX10_commute 13 = .ok (.ifCond .ne 5, 3) := @dq_o154 cX10_commute 13 0 5 (qX10_commute_0 13 154 rfl) (qX10_commute_0 14 0 rfl) (qX10_commute_0 15 5 rfl)
theorem dX10_commute_16 : decode cX10_commute 16 = .ok (.iconst 0, 1) := @dq_o3 cX10_commute 16 (qX10_commute_1 0 3 rfl)
theorem dX10_commute_17 : decode cX10_commute 17 = .ok (.ireturn, 1) := @dq_o172 cX10_commute 17 (qX10_commute_1 1 172 rfl)
theorem dX10_commute_18 : decode cX10_commute 18 = .ok (.aload_n 0, 1) := @dq_o42 cX10_commute 18 (qX10_commute_1 2 42 rfl)
theorem dX10_commute_19 : decode cX10_commute 19 = .ok (.getfield 62, 3) := @dq_o180 cX10_commute 19 0 62 (qX10_commute_1 3 180 rfl) (qX10_commute_1 4 0 rfl) (qX10_commute_1 5 62 rfl)
theorem dX10_commute_22 : decode cX10_commute 22 = .ok (.aload_n 0, 1) := @dq_o42 cX10_commute 22 (qX10_commute_1 6 42 rfl)
theorem dX10_commute_23 : decode cX10_commute 23 = .ok (.getfield 98, 3) := @dq_o180 cX10_commute 23 0 98 (qX10_commute_1 7 180 rfl) (qX10_commute_1 8 0 rfl) (qX10_commute_1 9 98 rfl)
theorem dX10_commute_26 : decode cX10_commute 26 = .ok (.aload_n 0, 1) := @dq_o42 cX10_commute 26 (qX10_commute_1 10 42 rfl)
theorem dX10_commute_27 : decode cX10_commute 27 = .ok (.getfield 12, 3) := @dq_o180 cX10_commute 27 0 12 (qX10_commute_1 11 180 rfl) (qX10_commute_1 12 0 rfl) (qX10_commute_1 13 12 rfl)
theorem dX10_commute_30 : decode cX10_commute 30 = .ok (.getfield 210, 3) := @dq_o180 cX10_commute 30 0 210 (qX10_commute_1 14 180 rfl) (qX10_commute_1 15 0 rfl) (qX10_commute_2 0 210 rfl)
theorem dX10_commute_33 : decode cX10_commute 33 = .ok (.iload_n 2, 1) := @dq_o28 cX10_commute 33 (qX10_commute_2 1 28 rfl)
theorem dX10_commute_34 : decode cX10_commute 34 = .ok (.aaload, 1) := @dq_o50 cX10_commute 34 (qX10_commute_2 2 50 rfl)
theorem dX10_commute_35 : decode cX10_commute 35 = .ok (.aload_n 0, 1) := @dq_o42 cX10_commute 35 (qX10_commute_2 3 42 rfl)
theorem dX10_commute_36 : decode cX10_commute 36 = .ok (.getfield 12, 3) := @dq_o180 cX10_commute 36 0 12 (qX10_commute_2 4 180 rfl) (qX10_commute_2 5 0 rfl) (qX10_commute_2 6 12 rfl)
theorem dX10_commute_39 : decode cX10_commute 39 = .ok (.getfield 210, 3) := @dq_o180 cX10_commute 39 0 210 (qX10_commute_2 7 180 rfl) (qX10_commute_2 8 0 rfl) (qX10_commute_2 9 210 rfl)
theorem dX10_commute_42 : decode cX10_commute 42 = .ok (.iload_n 3, 1) := @dq_o29 cX10_commute 42 (qX10_commute_2 10 29 rfl)
theorem dX10_commute_43 : decode cX10_commute 43 = .ok (.aaload, 1) := @dq_o50 cX10_commute 43 (qX10_commute_2 11 50 rfl)
theorem dX10_commute_44 : decode cX10_commute 44 = .ok (.invokevirtual 232, 3) := @dq_o182 cX10_commute 44 0 232 (qX10_commute_2 12 182 rfl) (qX10_commute_2 13 0 rfl) (qX10_commute_2 14 232 rfl)
theorem dX10_commute_47 : decode cX10_commute 47 = .ok (.aload_n 0, 1) := @dq_o42 cX10_commute 47 (qX10_commute_2 15 42 rfl)
theorem dX10_commute_48 : decode cX10_commute 48 = .ok (.iload_n 1, 1) := @dq_o27 cX10_commute 48 (qX10_commute_3 0 27 rfl)
theorem dX10_commute_49 : decode cX10_commute 49 = .ok (.invokevirtual 221, 3) := @dq_o182 cX10_commute 49 0 221 (qX10_commute_3 1 182 rfl) (qX10_commute_3 2 0 rfl) (qX10_commute_3 3 221 rfl)
theorem dX10_commute_52 : decode cX10_commute 52 = .ok (.ireturn, 1) := @dq_o172 cX10_commute 52 (qX10_commute_3 4 172 rfl)
abbrev qaX10_conjugate_0 : List Nat := [42, 27, 28, 182, 0, 214, 153, 0, 10, 29, 184, 0, 204, 154, 0, 5]
abbrev qaX10_conjugate_1 : List Nat := [3, 172, 42, 180, 0, 62, 42, 180, 0, 98, 42, 180, 0, 12, 180, 0]
abbrev qaX10_conjugate_2 : List Nat := [210, 28, 50, 42, 180, 0, 12, 180, 0, 210, 29, 50, 182, 0, 235, 42]
abbrev qaX10_conjugate_3 : List Nat := [27, 182, 0, 221, 172]
def qtX10_conjugate_4 : List Nat := []
def qtX10_conjugate_3 : List Nat := qaX10_conjugate_3 ++ qtX10_conjugate_4
def qtX10_conjugate_2 : List Nat := qaX10_conjugate_2 ++ qtX10_conjugate_3
def qtX10_conjugate_1 : List Nat := qaX10_conjugate_1 ++ qtX10_conjugate_2
def qtX10_conjugate_0 : List Nat := qaX10_conjugate_0 ++ qtX10_conjugate_1
theorem qeX10_conjugate : cX10_conjugate.data.toList.map UInt8.toNat = qtX10_conjugate_0 := by decide +kernel
theorem qsX10_conjugate_0 : ∀ i, dqNth qtX10_conjugate_0 (0 + i) = dqNth qtX10_conjugate_0 i := fun i => by rw [Nat.zero_add]
theorem qsX10_conjugate_1 : ∀ i, dqNth qtX10_conjugate_0 (16 + i) = dqNth qtX10_conjugate_1 i := dq_step qsX10_conjugate_0 rfl rfl
theorem qsX10_conjugate_2 : ∀ i, dqNth qtX10_conjugate_0 (32 + i) = dqNth qtX10_conjugate_2 i := dq_step qsX10_conjugate_1 rfl rfl
theorem qsX10_conjugate_3 : ∀ i, dqNth qtX10_conjugate_0 (48 + i) = dqNth qtX10_conjugate_3 i := dq_step qsX10_conjugate_2 rfl rfl
theorem qX10_conjugate_0 (i b : Nat) (h : dqNth qaX10_conjugate_0 i = some b) : DqBy cX10_conjugate (0 + i) b := dqBy_of qeX10_conjugate ((qsX10_conjugate_0 i).trans (dq_in h))
theorem qX10_conjugate_1 (i b : Nat) (h : dqNth qaX10_conjugate_1 i = some b) : DqBy cX10_conjugate (16 + i) b := dqBy_of qeX10_conjugate ((qsX10_conjugate_1 i).trans (dq_in h))
theorem qX10_conjugate_2 (i b : Nat) (h : dqNth qaX10_conjugate_2 i = some b) : DqBy cX10_conjugate (32 + i) b := dqBy_of qeX10_conjugate ((qsX10_conjugate_2 i).trans (dq_in h))
theorem qX10_conjugate_3 (i b : Nat) (h : dqNth qaX10_conjugate_3 i = some b) : DqBy cX10_conjugate (48 + i) b := dqBy_of qeX10_conjugate ((qsX10_conjugate_3 i).trans (dq_in h))
theorem dX10_conjugate_0 : decode cX10_conjugate 0 = .ok (.aload_n 0, 1) := @dq_o42 cX10_conjugate 0 (qX10_conjugate_0 0 42 rfl)
theorem dX10_conjugate_1 : decode cX10_conjugate 1 = .ok (.iload_n 1, 1) := @dq_o27 cX10_conjugate 1 (qX10_conjugate_0 1 27 rfl)
theorem dX10_conjugate_2 : decode cX10_conjugate 2 = .ok (.iload_n 2, 1) := @dq_o28 cX10_conjugate 2 (qX10_conjugate_0 2 28 rfl)
theorem dX10_conjugate_3 : decode cX10_conjugate 3 = .ok (.invokevirtual 214, 3) := @dq_o182 cX10_conjugate 3 0 214 (qX10_conjugate_0 3 182 rfl) (qX10_conjugate_0 4 0 rfl) (qX10_conjugate_0 5 214 rfl)
theorem dX10_conjugate_6 : decode cX10_conjugate 6 = .ok (.ifCond .eq 10, 3) := @dq_o153 cX10_conjugate 6 0 10 (qX10_conjugate_0 6 153 rfl) (qX10_conjugate_0 7 0 rfl) (qX10_conjugate_0 8 10 rfl)
theorem dX10_conjugate_9 : decode cX10_conjugate 9 = .ok (.iload_n 3, 1) := @dq_o29 cX10_conjugate 9 (qX10_conjugate_0 9 29 rfl)
theorem dX10_conjugate_10 : decode cX10_conjugate 10 = .ok (.invokestatic 204, 3) := @dq_o184 cX10_conjugate 10 0 204 (qX10_conjugate_0 10 184 rfl) (qX10_conjugate_0 11 0 rfl) (qX10_conjugate_0 12 204 rfl)
theorem dX10_conjugate_13 : decode cX10_conjugate 13 = .ok (.ifCond .ne 5, 3) := @dq_o154 cX10_conjugate 13 0 5 (qX10_conjugate_0 13 154 rfl) (qX10_conjugate_0 14 0 rfl) (qX10_conjugate_0 15 5 rfl)
theorem dX10_conjugate_16 : decode cX10_conjugate 16 = .ok (.iconst 0, 1) := @dq_o3 cX10_conjugate 16 (qX10_conjugate_1 0 3 rfl)
theorem dX10_conjugate_17 : decode cX10_conjugate 17 = .ok (.ireturn, 1) := @dq_o172 cX10_conjugate 17 (qX10_conjugate_1 1 172 rfl)
theorem dX10_conjugate_18 : decode cX10_conjugate 18 = .ok (.aload_n 0, 1) := @dq_o42 cX10_conjugate 18 (qX10_conjugate_1 2 42 rfl)
theorem dX10_conjugate_19 : decode cX10_conjugate 19 = .ok (.getfield 62, 3) := @dq_o180 cX10_conjugate 19 0 62 (qX10_conjugate_1 3 180 rfl) (qX10_conjugate_1 4 0 rfl) (qX10_conjugate_1 5 62 rfl)
theorem dX10_conjugate_22 : decode cX10_conjugate 22 = .ok (.aload_n 0, 1) := @dq_o42 cX10_conjugate 22 (qX10_conjugate_1 6 42 rfl)
theorem dX10_conjugate_23 : decode cX10_conjugate 23 = .ok (.getfield 98, 3) := @dq_o180 cX10_conjugate 23 0 98 (qX10_conjugate_1 7 180 rfl) (qX10_conjugate_1 8 0 rfl) (qX10_conjugate_1 9 98 rfl)
theorem dX10_conjugate_26 : decode cX10_conjugate 26 = .ok (.aload_n 0, 1) := @dq_o42 cX10_conjugate 26 (qX10_conjugate_1 10 42 rfl)
theorem dX10_conjugate_27 : decode cX10_conjugate 27 = .ok (.getfield 12, 3) := @dq_o180 cX10_conjugate 27 0 12 (qX10_conjugate_1 11 180 rfl) (qX10_conjugate_1 12 0 rfl) (qX10_conjugate_1 13 12 rfl)
theorem dX10_conjugate_30 : decode cX10_conjugate 30 = .ok (.getfield 210, 3) := @dq_o180 cX10_conjugate 30 0 210 (qX10_conjugate_1 14 180 rfl) (qX10_conjugate_1 15 0 rfl) (qX10_conjugate_2 0 210 rfl)
theorem dX10_conjugate_33 : decode cX10_conjugate 33 = .ok (.iload_n 2, 1) := @dq_o28 cX10_conjugate 33 (qX10_conjugate_2 1 28 rfl)
theorem dX10_conjugate_34 : decode cX10_conjugate 34 = .ok (.aaload, 1) := @dq_o50 cX10_conjugate 34 (qX10_conjugate_2 2 50 rfl)
theorem dX10_conjugate_35 : decode cX10_conjugate 35 = .ok (.aload_n 0, 1) := @dq_o42 cX10_conjugate 35 (qX10_conjugate_2 3 42 rfl)
theorem dX10_conjugate_36 : decode cX10_conjugate 36 = .ok (.getfield 12, 3) := @dq_o180 cX10_conjugate 36 0 12 (qX10_conjugate_2 4 180 rfl) (qX10_conjugate_2 5 0 rfl) (qX10_conjugate_2 6 12 rfl)
theorem dX10_conjugate_39 : decode cX10_conjugate 39 = .ok (.getfield 210, 3) := @dq_o180 cX10_conjugate 39 0 210 (qX10_conjugate_2 7 180 rfl) (qX10_conjugate_2 8 0 rfl) (qX10_conjugate_2 9 210 rfl)
theorem dX10_conjugate_42 : decode cX10_conjugate 42 = .ok (.iload_n 3, 1) := @dq_o29 cX10_conjugate 42 (qX10_conjugate_2 10 29 rfl)
theorem dX10_conjugate_43 : decode cX10_conjugate 43 = .ok (.aaload, 1) := @dq_o50 cX10_conjugate 43 (qX10_conjugate_2 11 50 rfl)
theorem dX10_conjugate_44 : decode cX10_conjugate 44 = .ok (.invokevirtual 235, 3) := @dq_o182 cX10_conjugate 44 0 235 (qX10_conjugate_2 12 182 rfl) (qX10_conjugate_2 13 0 rfl) (qX10_conjugate_2 14 235 rfl)
theorem dX10_conjugate_47 : decode cX10_conjugate 47 = .ok (.aload_n 0, 1) := @dq_o42 cX10_conjugate 47 (qX10_conjugate_2 15 42 rfl)
theorem dX10_conjugate_48 : decode cX10_conjugate 48 = .ok (.iload_n 1, 1) := @dq_o27 cX10_conjugate 48 (qX10_conjugate_3 0 27 rfl)
theorem dX10_conjugate_49 : decode cX10_conjugate 49 = .ok (.invokevirtual 221, 3) := @dq_o182 cX10_conjugate 49 0 221 (qX10_conjugate_3 1 182 rfl) (qX10_conjugate_3 2 0 rfl) (qX10_conjugate_3 3 221 rfl)
theorem dX10_conjugate_52 : decode cX10_conjugate 52 = .ok (.ireturn, 1) := @dq_o172 cX10_conjugate 52 (qX10_conjugate_3 4 172 rfl)
abbrev qaX10_root_0 : List Nat := [42, 27, 28, 182, 0, 214, 153, 0, 14, 29, 4, 161, 0, 9, 29, 16]
abbrev qaX10_root_1 : List Nat := [99, 164, 0, 5, 3, 172, 42, 180, 0, 62, 42, 180, 0, 98, 42, 180]
abbrev qaX10_root_2 : List Nat := [0, 12, 180, 0, 210, 28, 50, 29, 133, 182, 0, 238, 153, 0, 15, 42]
abbrev qaX10_root_3 : List Nat := [27, 182, 0, 242, 153, 0, 7, 4, 167, 0, 4, 3, 172]
def qtX10_root_4 : List Nat := []
def qtX10_root_3 : List Nat := qaX10_root_3 ++ qtX10_root_4
def qtX10_root_2 : List Nat := qaX10_root_2 ++ qtX10_root_3
def qtX10_root_1 : List Nat := qaX10_root_1 ++ qtX10_root_2
def qtX10_root_0 : List Nat := qaX10_root_0 ++ qtX10_root_1
theorem qeX10_root : cX10_root.data.toList.map UInt8.toNat = qtX10_root_0 := by decide +kernel
theorem qsX10_root_0 : ∀ i, dqNth qtX10_root_0 (0 + i) = dqNth qtX10_root_0 i := fun i => by rw [Nat.zero_add]
theorem qsX10_root_1 : ∀ i, dqNth qtX10_root_0 (16 + i) = dqNth qtX10_root_1 i := dq_step qsX10_root_0 rfl rfl
theorem qsX10_root_2 : ∀ i, dqNth qtX10_root_0 (32 + i) = dqNth qtX10_root_2 i := dq_step qsX10_root_1 rfl rfl
theorem qsX10_root_3 : ∀ i, dqNth qtX10_root_0 (48 + i) = dqNth qtX10_root_3 i := dq_step qsX10_root_2 rfl rfl
theorem qX10_root_0 (i b : Nat) (h : dqNth qaX10_root_0 i = some b) : DqBy cX10_root (0 + i) b := dqBy_of qeX10_root ((qsX10_root_0 i).trans (dq_in h))
theorem qX10_root_1 (i b : Nat) (h : dqNth qaX10_root_1 i = some b) : DqBy cX10_root (16 + i) b := dqBy_of qeX10_root ((qsX10_root_1 i).trans (dq_in h))
theorem qX10_root_2 (i b : Nat) (h : dqNth qaX10_root_2 i = some b) : DqBy cX10_root (32 + i) b := dqBy_of qeX10_root ((qsX10_root_2 i).trans (dq_in h))
theorem qX10_root_3 (i b : Nat) (h : dqNth qaX10_root_3 i = some b) : DqBy cX10_root (48 + i) b := dqBy_of qeX10_root ((qsX10_root_3 i).trans (dq_in h))
theorem dX10_root_0 : decode cX10_root 0 = .ok (.aload_n 0, 1) := @dq_o42 cX10_root 0 (qX10_root_0 0 42 rfl)
theorem dX10_root_1 : decode cX10_root 1 = .ok (.iload_n 1, 1) := @dq_o27 cX10_root 1 (qX10_root_0 1 27 rfl)
theorem dX10_root_2 : decode cX10_root 2 = .ok (.iload_n 2, 1) := @dq_o28 cX10_root 2 (qX10_root_0 2 28 rfl)
theorem dX10_root_3 : decode cX10_root 3 = .ok (.invokevirtual 214, 3) := @dq_o182 cX10_root 3 0 214 (qX10_root_0 3 182 rfl) (qX10_root_0 4 0 rfl) (qX10_root_0 5 214 rfl)
theorem dX10_root_6 : decode cX10_root 6 = .ok (.ifCond .eq 14, 3) := @dq_o153 cX10_root 6 0 14 (qX10_root_0 6 153 rfl) (qX10_root_0 7 0 rfl) (qX10_root_0 8 14 rfl)
theorem dX10_root_9 : decode cX10_root 9 = .ok (.iload_n 3, 1) := @dq_o29 cX10_root 9 (qX10_root_0 9 29 rfl)
theorem dX10_root_10 : decode cX10_root 10 = .ok (.iconst 1, 1) := @dq_o4 cX10_root 10 (qX10_root_0 10 4 rfl)
theorem dX10_root_11 : decode cX10_root 11 = .ok (.if_icmp .lt 9, 3) := @dq_o161 cX10_root 11 0 9 (qX10_root_0 11 161 rfl) (qX10_root_0 12 0 rfl) (qX10_root_0 13 9 rfl)
theorem dX10_root_14 : decode cX10_root 14 = .ok (.iload_n 3, 1) := @dq_o29 cX10_root 14 (qX10_root_0 14 29 rfl)
theorem dX10_root_15 : decode cX10_root 15 = .ok (.bipush 99, 2) := @dq_o16 cX10_root 15 99 (qX10_root_0 15 16 rfl) (qX10_root_1 0 99 rfl)
theorem dX10_root_17 : decode cX10_root 17 = .ok (.if_icmp .le 5, 3) := @dq_o164 cX10_root 17 0 5 (qX10_root_1 1 164 rfl) (qX10_root_1 2 0 rfl) (qX10_root_1 3 5 rfl)
theorem dX10_root_20 : decode cX10_root 20 = .ok (.iconst 0, 1) := @dq_o3 cX10_root 20 (qX10_root_1 4 3 rfl)
theorem dX10_root_21 : decode cX10_root 21 = .ok (.ireturn, 1) := @dq_o172 cX10_root 21 (qX10_root_1 5 172 rfl)
theorem dX10_root_22 : decode cX10_root 22 = .ok (.aload_n 0, 1) := @dq_o42 cX10_root 22 (qX10_root_1 6 42 rfl)
theorem dX10_root_23 : decode cX10_root 23 = .ok (.getfield 62, 3) := @dq_o180 cX10_root 23 0 62 (qX10_root_1 7 180 rfl) (qX10_root_1 8 0 rfl) (qX10_root_1 9 62 rfl)
theorem dX10_root_26 : decode cX10_root 26 = .ok (.aload_n 0, 1) := @dq_o42 cX10_root 26 (qX10_root_1 10 42 rfl)
theorem dX10_root_27 : decode cX10_root 27 = .ok (.getfield 98, 3) := @dq_o180 cX10_root 27 0 98 (qX10_root_1 11 180 rfl) (qX10_root_1 12 0 rfl) (qX10_root_1 13 98 rfl)
theorem dX10_root_30 : decode cX10_root 30 = .ok (.aload_n 0, 1) := @dq_o42 cX10_root 30 (qX10_root_1 14 42 rfl)
theorem dX10_root_31 : decode cX10_root 31 = .ok (.getfield 12, 3) := @dq_o180 cX10_root 31 0 12 (qX10_root_1 15 180 rfl) (qX10_root_2 0 0 rfl) (qX10_root_2 1 12 rfl)
theorem dX10_root_34 : decode cX10_root 34 = .ok (.getfield 210, 3) := @dq_o180 cX10_root 34 0 210 (qX10_root_2 2 180 rfl) (qX10_root_2 3 0 rfl) (qX10_root_2 4 210 rfl)
theorem dX10_root_37 : decode cX10_root 37 = .ok (.iload_n 2, 1) := @dq_o28 cX10_root 37 (qX10_root_2 5 28 rfl)
theorem dX10_root_38 : decode cX10_root 38 = .ok (.aaload, 1) := @dq_o50 cX10_root 38 (qX10_root_2 6 50 rfl)
theorem dX10_root_39 : decode cX10_root 39 = .ok (.iload_n 3, 1) := @dq_o29 cX10_root 39 (qX10_root_2 7 29 rfl)
theorem dX10_root_40 : decode cX10_root 40 = .ok (.i2l, 1) := @dq_o133 cX10_root 40 (qX10_root_2 8 133 rfl)
theorem dX10_root_41 : decode cX10_root 41 = .ok (.invokevirtual 238, 3) := @dq_o182 cX10_root 41 0 238 (qX10_root_2 9 182 rfl) (qX10_root_2 10 0 rfl) (qX10_root_2 11 238 rfl)
theorem dX10_root_44 : decode cX10_root 44 = .ok (.ifCond .eq 15, 3) := @dq_o153 cX10_root 44 0 15 (qX10_root_2 12 153 rfl) (qX10_root_2 13 0 rfl) (qX10_root_2 14 15 rfl)
theorem dX10_root_47 : decode cX10_root 47 = .ok (.aload_n 0, 1) := @dq_o42 cX10_root 47 (qX10_root_2 15 42 rfl)
theorem dX10_root_48 : decode cX10_root 48 = .ok (.iload_n 1, 1) := @dq_o27 cX10_root 48 (qX10_root_3 0 27 rfl)
theorem dX10_root_49 : decode cX10_root 49 = .ok (.invokevirtual 242, 3) := @dq_o182 cX10_root 49 0 242 (qX10_root_3 1 182 rfl) (qX10_root_3 2 0 rfl) (qX10_root_3 3 242 rfl)
theorem dX10_root_52 : decode cX10_root 52 = .ok (.ifCond .eq 7, 3) := @dq_o153 cX10_root 52 0 7 (qX10_root_3 4 153 rfl) (qX10_root_3 5 0 rfl) (qX10_root_3 6 7 rfl)
theorem dX10_root_55 : decode cX10_root 55 = .ok (.iconst 1, 1) := @dq_o4 cX10_root 55 (qX10_root_3 7 4 rfl)
theorem dX10_root_56 : decode cX10_root 56 = .ok (.goto 4, 3) := @dq_o167 cX10_root 56 0 4 (qX10_root_3 8 167 rfl) (qX10_root_3 9 0 rfl) (qX10_root_3 10 4 rfl)
theorem dX10_root_59 : decode cX10_root 59 = .ok (.iconst 0, 1) := @dq_o3 cX10_root 59 (qX10_root_3 11 3 rfl)
theorem dX10_root_60 : decode cX10_root 60 = .ok (.ireturn, 1) := @dq_o172 cX10_root 60 (qX10_root_3 12 172 rfl)
abbrev qaX10_seek_0 : List Nat := [42, 27, 28, 182, 0, 214, 153, 0, 22, 29, 184, 0, 204, 153, 0, 15]
abbrev qaX10_seek_1 : List Nat := [21, 4, 4, 161, 0, 9, 21, 4, 6, 164, 0, 5, 3, 172, 42, 180]
abbrev qaX10_seek_2 : List Nat := [0, 69, 42, 180, 0, 98, 42, 180, 0, 12, 180, 0, 210, 28, 50, 42]
abbrev qaX10_seek_3 : List Nat := [180, 0, 12, 180, 0, 210, 29, 50, 21, 4, 182, 0, 245, 153, 0, 15]
abbrev qaX10_seek_4 : List Nat := [42, 27, 182, 0, 242, 153, 0, 7, 4, 167, 0, 4, 3, 172]
def qtX10_seek_5 : List Nat := []
def qtX10_seek_4 : List Nat := qaX10_seek_4 ++ qtX10_seek_5
def qtX10_seek_3 : List Nat := qaX10_seek_3 ++ qtX10_seek_4
def qtX10_seek_2 : List Nat := qaX10_seek_2 ++ qtX10_seek_3
def qtX10_seek_1 : List Nat := qaX10_seek_1 ++ qtX10_seek_2
def qtX10_seek_0 : List Nat := qaX10_seek_0 ++ qtX10_seek_1
theorem qeX10_seek : cX10_seek.data.toList.map UInt8.toNat = qtX10_seek_0 := by decide +kernel
theorem qsX10_seek_0 : ∀ i, dqNth qtX10_seek_0 (0 + i) = dqNth qtX10_seek_0 i := fun i => by rw [Nat.zero_add]
theorem qsX10_seek_1 : ∀ i, dqNth qtX10_seek_0 (16 + i) = dqNth qtX10_seek_1 i := dq_step qsX10_seek_0 rfl rfl
theorem qsX10_seek_2 : ∀ i, dqNth qtX10_seek_0 (32 + i) = dqNth qtX10_seek_2 i := dq_step qsX10_seek_1 rfl rfl
theorem qsX10_seek_3 : ∀ i, dqNth qtX10_seek_0 (48 + i) = dqNth qtX10_seek_3 i := dq_step qsX10_seek_2 rfl rfl
theorem qsX10_seek_4 : ∀ i, dqNth qtX10_seek_0 (64 + i) = dqNth qtX10_seek_4 i := dq_step qsX10_seek_3 rfl rfl
theorem qX10_seek_0 (i b : Nat) (h : dqNth qaX10_seek_0 i = some b) : DqBy cX10_seek (0 + i) b := dqBy_of qeX10_seek ((qsX10_seek_0 i).trans (dq_in h))
theorem qX10_seek_1 (i b : Nat) (h : dqNth qaX10_seek_1 i = some b) : DqBy cX10_seek (16 + i) b := dqBy_of qeX10_seek ((qsX10_seek_1 i).trans (dq_in h))
theorem qX10_seek_2 (i b : Nat) (h : dqNth qaX10_seek_2 i = some b) : DqBy cX10_seek (32 + i) b := dqBy_of qeX10_seek ((qsX10_seek_2 i).trans (dq_in h))
theorem qX10_seek_3 (i b : Nat) (h : dqNth qaX10_seek_3 i = some b) : DqBy cX10_seek (48 + i) b := dqBy_of qeX10_seek ((qsX10_seek_3 i).trans (dq_in h))
theorem qX10_seek_4 (i b : Nat) (h : dqNth qaX10_seek_4 i = some b) : DqBy cX10_seek (64 + i) b := dqBy_of qeX10_seek ((qsX10_seek_4 i).trans (dq_in h))
theorem dX10_seek_0 : decode cX10_seek 0 = .ok (.aload_n 0, 1) := @dq_o42 cX10_seek 0 (qX10_seek_0 0 42 rfl)
theorem dX10_seek_1 : decode cX10_seek 1 = .ok (.iload_n 1, 1) := @dq_o27 cX10_seek 1 (qX10_seek_0 1 27 rfl)
theorem dX10_seek_2 : decode cX10_seek 2 = .ok (.iload_n 2, 1) := @dq_o28 cX10_seek 2 (qX10_seek_0 2 28 rfl)
theorem dX10_seek_3 : decode cX10_seek 3 = .ok (.invokevirtual 214, 3) := @dq_o182 cX10_seek 3 0 214 (qX10_seek_0 3 182 rfl) (qX10_seek_0 4 0 rfl) (qX10_seek_0 5 214 rfl)
theorem dX10_seek_6 : decode cX10_seek 6 = .ok (.ifCond .eq 22, 3) := @dq_o153 cX10_seek 6 0 22 (qX10_seek_0 6 153 rfl) (qX10_seek_0 7 0 rfl) (qX10_seek_0 8 22 rfl)
theorem dX10_seek_9 : decode cX10_seek 9 = .ok (.iload_n 3, 1) := @dq_o29 cX10_seek 9 (qX10_seek_0 9 29 rfl)
theorem dX10_seek_10 : decode cX10_seek 10 = .ok (.invokestatic 204, 3) := @dq_o184 cX10_seek 10 0 204 (qX10_seek_0 10 184 rfl) (qX10_seek_0 11 0 rfl) (qX10_seek_0 12 204 rfl)
theorem dX10_seek_13 : decode cX10_seek 13 = .ok (.ifCond .eq 15, 3) := @dq_o153 cX10_seek 13 0 15 (qX10_seek_0 13 153 rfl) (qX10_seek_0 14 0 rfl) (qX10_seek_0 15 15 rfl)
theorem dX10_seek_16 : decode cX10_seek 16 = .ok (.iload 4, 2) := @dq_o21 cX10_seek 16 4 (qX10_seek_1 0 21 rfl) (qX10_seek_1 1 4 rfl)
theorem dX10_seek_18 : decode cX10_seek 18 = .ok (.iconst 1, 1) := @dq_o4 cX10_seek 18 (qX10_seek_1 2 4 rfl)
theorem dX10_seek_19 : decode cX10_seek 19 = .ok (.if_icmp .lt 9, 3) := @dq_o161 cX10_seek 19 0 9 (qX10_seek_1 3 161 rfl) (qX10_seek_1 4 0 rfl) (qX10_seek_1 5 9 rfl)
theorem dX10_seek_22 : decode cX10_seek 22 = .ok (.iload 4, 2) := @dq_o21 cX10_seek 22 4 (qX10_seek_1 6 21 rfl) (qX10_seek_1 7 4 rfl)
theorem dX10_seek_24 : decode cX10_seek 24 = .ok (.iconst 3, 1) := @dq_o6 cX10_seek 24 (qX10_seek_1 8 6 rfl)
theorem dX10_seek_25 : decode cX10_seek 25 = .ok (.if_icmp .le 5, 3) := @dq_o164 cX10_seek 25 0 5 (qX10_seek_1 9 164 rfl) (qX10_seek_1 10 0 rfl) (qX10_seek_1 11 5 rfl)
theorem dX10_seek_28 : decode cX10_seek 28 = .ok (.iconst 0, 1) := @dq_o3 cX10_seek 28 (qX10_seek_1 12 3 rfl)
theorem dX10_seek_29 : decode cX10_seek 29 = .ok (.ireturn, 1) := @dq_o172 cX10_seek 29 (qX10_seek_1 13 172 rfl)
theorem dX10_seek_30 : decode cX10_seek 30 = .ok (.aload_n 0, 1) := @dq_o42 cX10_seek 30 (qX10_seek_1 14 42 rfl)
theorem dX10_seek_31 : decode cX10_seek 31 = .ok (.getfield 69, 3) := @dq_o180 cX10_seek 31 0 69 (qX10_seek_1 15 180 rfl) (qX10_seek_2 0 0 rfl) (qX10_seek_2 1 69 rfl)
theorem dX10_seek_34 : decode cX10_seek 34 = .ok (.aload_n 0, 1) := @dq_o42 cX10_seek 34 (qX10_seek_2 2 42 rfl)
theorem dX10_seek_35 : decode cX10_seek 35 = .ok (.getfield 98, 3) := @dq_o180 cX10_seek 35 0 98 (qX10_seek_2 3 180 rfl) (qX10_seek_2 4 0 rfl) (qX10_seek_2 5 98 rfl)
theorem dX10_seek_38 : decode cX10_seek 38 = .ok (.aload_n 0, 1) := @dq_o42 cX10_seek 38 (qX10_seek_2 6 42 rfl)
theorem dX10_seek_39 : decode cX10_seek 39 = .ok (.getfield 12, 3) := @dq_o180 cX10_seek 39 0 12 (qX10_seek_2 7 180 rfl) (qX10_seek_2 8 0 rfl) (qX10_seek_2 9 12 rfl)
theorem dX10_seek_42 : decode cX10_seek 42 = .ok (.getfield 210, 3) := @dq_o180 cX10_seek 42 0 210 (qX10_seek_2 10 180 rfl) (qX10_seek_2 11 0 rfl) (qX10_seek_2 12 210 rfl)
theorem dX10_seek_45 : decode cX10_seek 45 = .ok (.iload_n 2, 1) := @dq_o28 cX10_seek 45 (qX10_seek_2 13 28 rfl)
theorem dX10_seek_46 : decode cX10_seek 46 = .ok (.aaload, 1) := @dq_o50 cX10_seek 46 (qX10_seek_2 14 50 rfl)
theorem dX10_seek_47 : decode cX10_seek 47 = .ok (.aload_n 0, 1) := @dq_o42 cX10_seek 47 (qX10_seek_2 15 42 rfl)
theorem dX10_seek_48 : decode cX10_seek 48 = .ok (.getfield 12, 3) := @dq_o180 cX10_seek 48 0 12 (qX10_seek_3 0 180 rfl) (qX10_seek_3 1 0 rfl) (qX10_seek_3 2 12 rfl)
theorem dX10_seek_51 : decode cX10_seek 51 = .ok (.getfield 210, 3) := @dq_o180 cX10_seek 51 0 210 (qX10_seek_3 3 180 rfl) (qX10_seek_3 4 0 rfl) (qX10_seek_3 5 210 rfl)
theorem dX10_seek_54 : decode cX10_seek 54 = .ok (.iload_n 3, 1) := @dq_o29 cX10_seek 54 (qX10_seek_3 6 29 rfl)
theorem dX10_seek_55 : decode cX10_seek 55 = .ok (.aaload, 1) := @dq_o50 cX10_seek 55 (qX10_seek_3 7 50 rfl)
theorem dX10_seek_56 : decode cX10_seek 56 = .ok (.iload 4, 2) := @dq_o21 cX10_seek 56 4 (qX10_seek_3 8 21 rfl) (qX10_seek_3 9 4 rfl)
theorem dX10_seek_58 : decode cX10_seek 58 = .ok (.invokevirtual 245, 3) := @dq_o182 cX10_seek 58 0 245 (qX10_seek_3 10 182 rfl) (qX10_seek_3 11 0 rfl) (qX10_seek_3 12 245 rfl)
theorem dX10_seek_61 : decode cX10_seek 61 = .ok (.ifCond .eq 15, 3) := @dq_o153 cX10_seek 61 0 15 (qX10_seek_3 13 153 rfl) (qX10_seek_3 14 0 rfl) (qX10_seek_3 15 15 rfl)
theorem dX10_seek_64 : decode cX10_seek 64 = .ok (.aload_n 0, 1) := @dq_o42 cX10_seek 64 (qX10_seek_4 0 42 rfl)
theorem dX10_seek_65 : decode cX10_seek 65 = .ok (.iload_n 1, 1) := @dq_o27 cX10_seek 65 (qX10_seek_4 1 27 rfl)
theorem dX10_seek_66 : decode cX10_seek 66 = .ok (.invokevirtual 242, 3) := @dq_o182 cX10_seek 66 0 242 (qX10_seek_4 2 182 rfl) (qX10_seek_4 3 0 rfl) (qX10_seek_4 4 242 rfl)
theorem dX10_seek_69 : decode cX10_seek 69 = .ok (.ifCond .eq 7, 3) := @dq_o153 cX10_seek 69 0 7 (qX10_seek_4 5 153 rfl) (qX10_seek_4 6 0 rfl) (qX10_seek_4 7 7 rfl)
theorem dX10_seek_72 : decode cX10_seek 72 = .ok (.iconst 1, 1) := @dq_o4 cX10_seek 72 (qX10_seek_4 8 4 rfl)
theorem dX10_seek_73 : decode cX10_seek 73 = .ok (.goto 4, 3) := @dq_o167 cX10_seek 73 0 4 (qX10_seek_4 9 167 rfl) (qX10_seek_4 10 0 rfl) (qX10_seek_4 11 4 rfl)
theorem dX10_seek_76 : decode cX10_seek 76 = .ok (.iconst 0, 1) := @dq_o3 cX10_seek 76 (qX10_seek_4 12 3 rfl)
theorem dX10_seek_77 : decode cX10_seek 77 = .ok (.ireturn, 1) := @dq_o172 cX10_seek 77 (qX10_seek_4 13 172 rfl)
abbrev qaX10_feed_0 : List Nat := [42, 180, 0, 38, 17, 0, 180, 164, 0, 5, 2, 172, 42, 27, 182, 0]
abbrev qaX10_feed_1 : List Nat := [249, 42, 28, 182, 0, 249, 42, 29, 182, 0, 249, 42, 21, 4, 182, 0]
abbrev qaX10_feed_2 : List Nat := [249, 42, 21, 5, 182, 0, 249, 42, 180, 0, 38, 172]
def qtX10_feed_3 : List Nat := []
def qtX10_feed_2 : List Nat := qaX10_feed_2 ++ qtX10_feed_3
def qtX10_feed_1 : List Nat := qaX10_feed_1 ++ qtX10_feed_2
def qtX10_feed_0 : List Nat := qaX10_feed_0 ++ qtX10_feed_1
theorem qeX10_feed : cX10_feed.data.toList.map UInt8.toNat = qtX10_feed_0 := by decide +kernel
theorem qsX10_feed_0 : ∀ i, dqNth qtX10_feed_0 (0 + i) = dqNth qtX10_feed_0 i := fun i => by rw [Nat.zero_add]
theorem qsX10_feed_1 : ∀ i, dqNth qtX10_feed_0 (16 + i) = dqNth qtX10_feed_1 i := dq_step qsX10_feed_0 rfl rfl
theorem qsX10_feed_2 : ∀ i, dqNth qtX10_feed_0 (32 + i) = dqNth qtX10_feed_2 i := dq_step qsX10_feed_1 rfl rfl
theorem qX10_feed_0 (i b : Nat) (h : dqNth qaX10_feed_0 i = some b) : DqBy cX10_feed (0 + i) b := dqBy_of qeX10_feed ((qsX10_feed_0 i).trans (dq_in h))
theorem qX10_feed_1 (i b : Nat) (h : dqNth qaX10_feed_1 i = some b) : DqBy cX10_feed (16 + i) b := dqBy_of qeX10_feed ((qsX10_feed_1 i).trans (dq_in h))
theorem qX10_feed_2 (i b : Nat) (h : dqNth qaX10_feed_2 i = some b) : DqBy cX10_feed (32 + i) b := dqBy_of qeX10_feed ((qsX10_feed_2 i).trans (dq_in h))
theorem dX10_feed_0 : decode cX10_feed 0 = .ok (.aload_n 0, 1) := @dq_o42 cX10_feed 0 (qX10_feed_0 0 42 rfl)
theorem dX10_feed_1 : decode cX10_feed 1 = .ok (.getfield 38, 3) := @dq_o180 cX10_feed 1 0 38 (qX10_feed_0 1 180 rfl) (qX10_feed_0 2 0 rfl) (qX10_feed_0 3 38 rfl)
theorem dX10_feed_4 : decode cX10_feed 4 = .ok (.sipush 180, 3) := @dq_o17 cX10_feed 4 0 180 (qX10_feed_0 4 17 rfl) (qX10_feed_0 5 0 rfl) (qX10_feed_0 6 180 rfl)
theorem dX10_feed_7 : decode cX10_feed 7 = .ok (.if_icmp .le 5, 3) := @dq_o164 cX10_feed 7 0 5 (qX10_feed_0 7 164 rfl) (qX10_feed_0 8 0 rfl) (qX10_feed_0 9 5 rfl)
theorem dX10_feed_10 : decode cX10_feed 10 = .ok (.iconst (-1), 1) := @dq_o2 cX10_feed 10 (qX10_feed_0 10 2 rfl)
theorem dX10_feed_11 : decode cX10_feed 11 = .ok (.ireturn, 1) := @dq_o172 cX10_feed 11 (qX10_feed_0 11 172 rfl)
theorem dX10_feed_12 : decode cX10_feed 12 = .ok (.aload_n 0, 1) := @dq_o42 cX10_feed 12 (qX10_feed_0 12 42 rfl)
theorem dX10_feed_13 : decode cX10_feed 13 = .ok (.iload_n 1, 1) := @dq_o27 cX10_feed 13 (qX10_feed_0 13 27 rfl)
theorem dX10_feed_14 : decode cX10_feed 14 = .ok (.invokevirtual 249, 3) := @dq_o182 cX10_feed 14 0 249 (qX10_feed_0 14 182 rfl) (qX10_feed_0 15 0 rfl) (qX10_feed_1 0 249 rfl)
theorem dX10_feed_17 : decode cX10_feed 17 = .ok (.aload_n 0, 1) := @dq_o42 cX10_feed 17 (qX10_feed_1 1 42 rfl)
theorem dX10_feed_18 : decode cX10_feed 18 = .ok (.iload_n 2, 1) := @dq_o28 cX10_feed 18 (qX10_feed_1 2 28 rfl)
theorem dX10_feed_19 : decode cX10_feed 19 = .ok (.invokevirtual 249, 3) := @dq_o182 cX10_feed 19 0 249 (qX10_feed_1 3 182 rfl) (qX10_feed_1 4 0 rfl) (qX10_feed_1 5 249 rfl)
theorem dX10_feed_22 : decode cX10_feed 22 = .ok (.aload_n 0, 1) := @dq_o42 cX10_feed 22 (qX10_feed_1 6 42 rfl)
theorem dX10_feed_23 : decode cX10_feed 23 = .ok (.iload_n 3, 1) := @dq_o29 cX10_feed 23 (qX10_feed_1 7 29 rfl)
theorem dX10_feed_24 : decode cX10_feed 24 = .ok (.invokevirtual 249, 3) := @dq_o182 cX10_feed 24 0 249 (qX10_feed_1 8 182 rfl) (qX10_feed_1 9 0 rfl) (qX10_feed_1 10 249 rfl)
theorem dX10_feed_27 : decode cX10_feed 27 = .ok (.aload_n 0, 1) := @dq_o42 cX10_feed 27 (qX10_feed_1 11 42 rfl)
theorem dX10_feed_28 : decode cX10_feed 28 = .ok (.iload 4, 2) := @dq_o21 cX10_feed 28 4 (qX10_feed_1 12 21 rfl) (qX10_feed_1 13 4 rfl)
theorem dX10_feed_30 : decode cX10_feed 30 = .ok (.invokevirtual 249, 3) := @dq_o182 cX10_feed 30 0 249 (qX10_feed_1 14 182 rfl) (qX10_feed_1 15 0 rfl) (qX10_feed_2 0 249 rfl)
theorem dX10_feed_33 : decode cX10_feed 33 = .ok (.aload_n 0, 1) := @dq_o42 cX10_feed 33 (qX10_feed_2 1 42 rfl)
theorem dX10_feed_34 : decode cX10_feed 34 = .ok (.iload 5, 2) := @dq_o21 cX10_feed 34 5 (qX10_feed_2 2 21 rfl) (qX10_feed_2 3 5 rfl)
theorem dX10_feed_36 : decode cX10_feed 36 = .ok (.invokevirtual 249, 3) := @dq_o182 cX10_feed 36 0 249 (qX10_feed_2 4 182 rfl) (qX10_feed_2 5 0 rfl) (qX10_feed_2 6 249 rfl)
theorem dX10_feed_39 : decode cX10_feed 39 = .ok (.aload_n 0, 1) := @dq_o42 cX10_feed 39 (qX10_feed_2 7 42 rfl)
theorem dX10_feed_40 : decode cX10_feed 40 = .ok (.getfield 38, 3) := @dq_o180 cX10_feed 40 0 38 (qX10_feed_2 8 180 rfl) (qX10_feed_2 9 0 rfl) (qX10_feed_2 10 38 rfl)
theorem dX10_feed_43 : decode cX10_feed 43 = .ok (.ireturn, 1) := @dq_o172 cX10_feed 43 (qX10_feed_2 11 172 rfl)
abbrev qaX10_end_0 : List Nat := [27, 155, 0, 11, 27, 42, 180, 0, 38, 164, 0, 5, 3, 172, 42, 27]
abbrev qaX10_end_1 : List Nat := [181, 0, 38, 4, 172]
def qtX10_end_2 : List Nat := []
def qtX10_end_1 : List Nat := qaX10_end_1 ++ qtX10_end_2
def qtX10_end_0 : List Nat := qaX10_end_0 ++ qtX10_end_1
theorem qeX10_end : cX10_end.data.toList.map UInt8.toNat = qtX10_end_0 := by decide +kernel
theorem qsX10_end_0 : ∀ i, dqNth qtX10_end_0 (0 + i) = dqNth qtX10_end_0 i := fun i => by rw [Nat.zero_add]
theorem qsX10_end_1 : ∀ i, dqNth qtX10_end_0 (16 + i) = dqNth qtX10_end_1 i := dq_step qsX10_end_0 rfl rfl
theorem qX10_end_0 (i b : Nat) (h : dqNth qaX10_end_0 i = some b) : DqBy cX10_end (0 + i) b := dqBy_of qeX10_end ((qsX10_end_0 i).trans (dq_in h))
theorem qX10_end_1 (i b : Nat) (h : dqNth qaX10_end_1 i = some b) : DqBy cX10_end (16 + i) b := dqBy_of qeX10_end ((qsX10_end_1 i).trans (dq_in h))
theorem dX10_end_0 : decode cX10_end 0 = .ok (.iload_n 1, 1) := @dq_o27 cX10_end 0 (qX10_end_0 0 27 rfl)
theorem dX10_end_1 : decode cX10_end 1 = .ok (.ifCond .lt 11, 3) := @dq_o155 cX10_end 1 0 11 (qX10_end_0 1 155 rfl) (qX10_end_0 2 0 rfl) (qX10_end_0 3 11 rfl)
theorem dX10_end_4 : decode cX10_end 4 = .ok (.iload_n 1, 1) := @dq_o27 cX10_end 4 (qX10_end_0 4 27 rfl)
theorem dX10_end_5 : decode cX10_end 5 = .ok (.aload_n 0, 1) := @dq_o42 cX10_end 5 (qX10_end_0 5 42 rfl)
theorem dX10_end_6 : decode cX10_end 6 = .ok (.getfield 38, 3) := @dq_o180 cX10_end 6 0 38 (qX10_end_0 6 180 rfl) (qX10_end_0 7 0 rfl) (qX10_end_0 8 38 rfl)
theorem dX10_end_9 : decode cX10_end 9 = .ok (.if_icmp .le 5, 3) := @dq_o164 cX10_end 9 0 5 (qX10_end_0 9 164 rfl) (qX10_end_0 10 0 rfl) (qX10_end_0 11 5 rfl)
theorem dX10_end_12 : decode cX10_end 12 = .ok (.iconst 0, 1) := @dq_o3 cX10_end 12 (qX10_end_0 12 3 rfl)
theorem dX10_end_13 : decode cX10_end 13 = .ok (.ireturn, 1) := @dq_o172 cX10_end 13 (qX10_end_0 13 172 rfl)
theorem dX10_end_14 : decode cX10_end 14 = .ok (.aload_n 0, 1) := @dq_o42 cX10_end 14 (qX10_end_0 14 42 rfl)
theorem dX10_end_15 : decode cX10_end 15 = .ok (.iload_n 1, 1) := @dq_o27 cX10_end 15 (qX10_end_0 15 27 rfl)
theorem dX10_end_16 : decode cX10_end 16 = .ok (.putfield 38, 3) := @dq_o181 cX10_end 16 0 38 (qX10_end_1 0 181 rfl) (qX10_end_1 1 0 rfl) (qX10_end_1 2 38 rfl)
theorem dX10_end_19 : decode cX10_end 19 = .ok (.iconst 1, 1) := @dq_o4 cX10_end 19 (qX10_end_1 3 4 rfl)
theorem dX10_end_20 : decode cX10_end 20 = .ok (.ireturn, 1) := @dq_o172 cX10_end 20 (qX10_end_1 4 172 rfl)
abbrev qaX10_text_0 : List Nat := [42, 180, 0, 38, 61, 42, 3, 181, 0, 38, 42, 180, 0, 94, 182, 0]
abbrev qaX10_text_1 : List Nat := [252, 27, 184, 0, 204, 153, 0, 13, 42, 180, 0, 53, 180, 0, 141, 154]
abbrev qaX10_text_2 : List Nat := [0, 5, 3, 172, 42, 180, 0, 94, 42, 180, 0, 34, 28, 182, 0, 255]
abbrev qaX10_text_3 : List Nat := [153, 0, 25, 42, 180, 0, 94, 180, 1, 2, 3, 50, 42, 180, 0, 98]
abbrev qaX10_text_4 : List Nat := [184, 1, 5, 42, 27, 182, 0, 242, 172, 42, 180, 0, 94, 180, 1, 8]
abbrev qaX10_text_5 : List Nat := [8, 160, 0, 16, 42, 180, 0, 12, 180, 1, 11, 3, 92, 46, 4, 96]
abbrev qaX10_text_6 : List Nat := [79, 3, 172]
def qtX10_text_7 : List Nat := []
def qtX10_text_6 : List Nat := qaX10_text_6 ++ qtX10_text_7
def qtX10_text_5 : List Nat := qaX10_text_5 ++ qtX10_text_6
def qtX10_text_4 : List Nat := qaX10_text_4 ++ qtX10_text_5
def qtX10_text_3 : List Nat := qaX10_text_3 ++ qtX10_text_4
def qtX10_text_2 : List Nat := qaX10_text_2 ++ qtX10_text_3
def qtX10_text_1 : List Nat := qaX10_text_1 ++ qtX10_text_2
def qtX10_text_0 : List Nat := qaX10_text_0 ++ qtX10_text_1
theorem qeX10_text : cX10_text.data.toList.map UInt8.toNat = qtX10_text_0 := by decide +kernel
theorem qsX10_text_0 : ∀ i, dqNth qtX10_text_0 (0 + i) = dqNth qtX10_text_0 i := fun i => by rw [Nat.zero_add]
theorem qsX10_text_1 : ∀ i, dqNth qtX10_text_0 (16 + i) = dqNth qtX10_text_1 i := dq_step qsX10_text_0 rfl rfl
theorem qsX10_text_2 : ∀ i, dqNth qtX10_text_0 (32 + i) = dqNth qtX10_text_2 i := dq_step qsX10_text_1 rfl rfl
theorem qsX10_text_3 : ∀ i, dqNth qtX10_text_0 (48 + i) = dqNth qtX10_text_3 i := dq_step qsX10_text_2 rfl rfl
theorem qsX10_text_4 : ∀ i, dqNth qtX10_text_0 (64 + i) = dqNth qtX10_text_4 i := dq_step qsX10_text_3 rfl rfl
theorem qsX10_text_5 : ∀ i, dqNth qtX10_text_0 (80 + i) = dqNth qtX10_text_5 i := dq_step qsX10_text_4 rfl rfl
theorem qsX10_text_6 : ∀ i, dqNth qtX10_text_0 (96 + i) = dqNth qtX10_text_6 i := dq_step qsX10_text_5 rfl rfl
theorem qX10_text_0 (i b : Nat) (h : dqNth qaX10_text_0 i = some b) : DqBy cX10_text (0 + i) b := dqBy_of qeX10_text ((qsX10_text_0 i).trans (dq_in h))
theorem qX10_text_1 (i b : Nat) (h : dqNth qaX10_text_1 i = some b) : DqBy cX10_text (16 + i) b := dqBy_of qeX10_text ((qsX10_text_1 i).trans (dq_in h))
theorem qX10_text_2 (i b : Nat) (h : dqNth qaX10_text_2 i = some b) : DqBy cX10_text (32 + i) b := dqBy_of qeX10_text ((qsX10_text_2 i).trans (dq_in h))
theorem qX10_text_3 (i b : Nat) (h : dqNth qaX10_text_3 i = some b) : DqBy cX10_text (48 + i) b := dqBy_of qeX10_text ((qsX10_text_3 i).trans (dq_in h))
theorem qX10_text_4 (i b : Nat) (h : dqNth qaX10_text_4 i = some b) : DqBy cX10_text (64 + i) b := dqBy_of qeX10_text ((qsX10_text_4 i).trans (dq_in h))
theorem qX10_text_5 (i b : Nat) (h : dqNth qaX10_text_5 i = some b) : DqBy cX10_text (80 + i) b := dqBy_of qeX10_text ((qsX10_text_5 i).trans (dq_in h))
theorem qX10_text_6 (i b : Nat) (h : dqNth qaX10_text_6 i = some b) : DqBy cX10_text (96 + i) b := dqBy_of qeX10_text ((qsX10_text_6 i).trans (dq_in h))
theorem dX10_text_0 : decode cX10_text 0 = .ok (.aload_n 0, 1) := @dq_o42 cX10_text 0 (qX10_text_0 0 42 rfl)
theorem dX10_text_1 : decode cX10_text 1 = .ok (.getfield 38, 3) := @dq_o180 cX10_text 1 0 38 (qX10_text_0 1 180 rfl) (qX10_text_0 2 0 rfl) (qX10_text_0 3 38 rfl)
theorem dX10_text_4 : decode cX10_text 4 = .ok (.istore_n 2, 1) := @dq_o61 cX10_text 4 (qX10_text_0 4 61 rfl)
theorem dX10_text_5 : decode cX10_text 5 = .ok (.aload_n 0, 1) := @dq_o42 cX10_text 5 (qX10_text_0 5 42 rfl)
theorem dX10_text_6 : decode cX10_text 6 = .ok (.iconst 0, 1) := @dq_o3 cX10_text 6 (qX10_text_0 6 3 rfl)
theorem dX10_text_7 : decode cX10_text 7 = .ok (.putfield 38, 3) := @dq_o181 cX10_text 7 0 38 (qX10_text_0 7 181 rfl) (qX10_text_0 8 0 rfl) (qX10_text_0 9 38 rfl)
theorem dX10_text_10 : decode cX10_text 10 = .ok (.aload_n 0, 1) := @dq_o42 cX10_text 10 (qX10_text_0 10 42 rfl)
theorem dX10_text_11 : decode cX10_text 11 = .ok (.getfield 94, 3) := @dq_o180 cX10_text 11 0 94 (qX10_text_0 11 180 rfl) (qX10_text_0 12 0 rfl) (qX10_text_0 13 94 rfl)
theorem dX10_text_14 : decode cX10_text 14 = .ok (.invokevirtual 252, 3) := @dq_o182 cX10_text 14 0 252 (qX10_text_0 14 182 rfl) (qX10_text_0 15 0 rfl) (qX10_text_1 0 252 rfl)
theorem dX10_text_17 : decode cX10_text 17 = .ok (.iload_n 1, 1) := @dq_o27 cX10_text 17 (qX10_text_1 1 27 rfl)
theorem dX10_text_18 : decode cX10_text 18 = .ok (.invokestatic 204, 3) := @dq_o184 cX10_text 18 0 204 (qX10_text_1 2 184 rfl) (qX10_text_1 3 0 rfl) (qX10_text_1 4 204 rfl)
theorem dX10_text_21 : decode cX10_text 21 = .ok (.ifCond .eq 13, 3) := @dq_o153 cX10_text 21 0 13 (qX10_text_1 5 153 rfl) (qX10_text_1 6 0 rfl) (qX10_text_1 7 13 rfl)
theorem dX10_text_24 : decode cX10_text 24 = .ok (.aload_n 0, 1) := @dq_o42 cX10_text 24 (qX10_text_1 8 42 rfl)
theorem dX10_text_25 : decode cX10_text 25 = .ok (.getfield 53, 3) := @dq_o180 cX10_text 25 0 53 (qX10_text_1 9 180 rfl) (qX10_text_1 10 0 rfl) (qX10_text_1 11 53 rfl)
theorem dX10_text_28 : decode cX10_text 28 = .ok (.getfield 141, 3) := @dq_o180 cX10_text 28 0 141 (qX10_text_1 12 180 rfl) (qX10_text_1 13 0 rfl) (qX10_text_1 14 141 rfl)
theorem dX10_text_31 : decode cX10_text 31 = .ok (.ifCond .ne 5, 3) := @dq_o154 cX10_text 31 0 5 (qX10_text_1 15 154 rfl) (qX10_text_2 0 0 rfl) (qX10_text_2 1 5 rfl)
theorem dX10_text_34 : decode cX10_text 34 = .ok (.iconst 0, 1) := @dq_o3 cX10_text 34 (qX10_text_2 2 3 rfl)
theorem dX10_text_35 : decode cX10_text 35 = .ok (.ireturn, 1) := @dq_o172 cX10_text 35 (qX10_text_2 3 172 rfl)
theorem dX10_text_36 : decode cX10_text 36 = .ok (.aload_n 0, 1) := @dq_o42 cX10_text 36 (qX10_text_2 4 42 rfl)
theorem dX10_text_37 : decode cX10_text 37 = .ok (.getfield 94, 3) := @dq_o180 cX10_text 37 0 94 (qX10_text_2 5 180 rfl) (qX10_text_2 6 0 rfl) (qX10_text_2 7 94 rfl)
theorem dX10_text_40 : decode cX10_text 40 = .ok (.aload_n 0, 1) := @dq_o42 cX10_text 40 (qX10_text_2 8 42 rfl)
theorem dX10_text_41 : decode cX10_text 41 = .ok (.getfield 34, 3) := @dq_o180 cX10_text 41 0 34 (qX10_text_2 9 180 rfl) (qX10_text_2 10 0 rfl) (qX10_text_2 11 34 rfl)
theorem dX10_text_44 : decode cX10_text 44 = .ok (.iload_n 2, 1) := @dq_o28 cX10_text 44 (qX10_text_2 12 28 rfl)
theorem dX10_text_45 : decode cX10_text 45 = .ok (.invokevirtual 255, 3) := @dq_o182 cX10_text 45 0 255 (qX10_text_2 13 182 rfl) (qX10_text_2 14 0 rfl) (qX10_text_2 15 255 rfl)
theorem dX10_text_48 : decode cX10_text 48 = .ok (.ifCond .eq 25, 3) := @dq_o153 cX10_text 48 0 25 (qX10_text_3 0 153 rfl) (qX10_text_3 1 0 rfl) (qX10_text_3 2 25 rfl)
theorem dX10_text_51 : decode cX10_text 51 = .ok (.aload_n 0, 1) := @dq_o42 cX10_text 51 (qX10_text_3 3 42 rfl)
theorem dX10_text_52 : decode cX10_text 52 = .ok (.getfield 94, 3) := @dq_o180 cX10_text 52 0 94 (qX10_text_3 4 180 rfl) (qX10_text_3 5 0 rfl) (qX10_text_3 6 94 rfl)
theorem dX10_text_55 : decode cX10_text 55 = .ok (.getfield 258, 3) := @dq_o180 cX10_text 55 1 2 (qX10_text_3 7 180 rfl) (qX10_text_3 8 1 rfl) (qX10_text_3 9 2 rfl)
theorem dX10_text_58 : decode cX10_text 58 = .ok (.iconst 0, 1) := @dq_o3 cX10_text 58 (qX10_text_3 10 3 rfl)
theorem dX10_text_59 : decode cX10_text 59 = .ok (.aaload, 1) := @dq_o50 cX10_text 59 (qX10_text_3 11 50 rfl)
theorem dX10_text_60 : decode cX10_text 60 = .ok (.aload_n 0, 1) := @dq_o42 cX10_text 60 (qX10_text_3 12 42 rfl)
theorem dX10_text_61 : decode cX10_text 61 = .ok (.getfield 98, 3) := @dq_o180 cX10_text 61 0 98 (qX10_text_3 13 180 rfl) (qX10_text_3 14 0 rfl) (qX10_text_3 15 98 rfl)
theorem dX10_text_64 : decode cX10_text 64 = .ok (.invokestatic 261, 3) := @dq_o184 cX10_text 64 1 5 (qX10_text_4 0 184 rfl) (qX10_text_4 1 1 rfl) (qX10_text_4 2 5 rfl)
theorem dX10_text_67 : decode cX10_text 67 = .ok (.aload_n 0, 1) := @dq_o42 cX10_text 67 (qX10_text_4 3 42 rfl)
theorem dX10_text_68 : decode cX10_text 68 = .ok (.iload_n 1, 1) := @dq_o27 cX10_text 68 (qX10_text_4 4 27 rfl)
theorem dX10_text_69 : decode cX10_text 69 = .ok (.invokevirtual 242, 3) := @dq_o182 cX10_text 69 0 242 (qX10_text_4 5 182 rfl) (qX10_text_4 6 0 rfl) (qX10_text_4 7 242 rfl)
theorem dX10_text_72 : decode cX10_text 72 = .ok (.ireturn, 1) := @dq_o172 cX10_text 72 (qX10_text_4 8 172 rfl)
theorem dX10_text_73 : decode cX10_text 73 = .ok (.aload_n 0, 1) := @dq_o42 cX10_text 73 (qX10_text_4 9 42 rfl)
theorem dX10_text_74 : decode cX10_text 74 = .ok (.getfield 94, 3) := @dq_o180 cX10_text 74 0 94 (qX10_text_4 10 180 rfl) (qX10_text_4 11 0 rfl) (qX10_text_4 12 94 rfl)
theorem dX10_text_77 : decode cX10_text 77 = .ok (.getfield 264, 3) := @dq_o180 cX10_text 77 1 8 (qX10_text_4 13 180 rfl) (qX10_text_4 14 1 rfl) (qX10_text_4 15 8 rfl)
theorem dX10_text_80 : decode cX10_text 80 = .ok (.iconst 5, 1) := @dq_o8 cX10_text 80 (qX10_text_5 0 8 rfl)
theorem dX10_text_81 : decode cX10_text 81 = .ok (.if_icmp .ne 16, 3) := @dq_o160 cX10_text 81 0 16 (qX10_text_5 1 160 rfl) (qX10_text_5 2 0 rfl) (qX10_text_5 3 16 rfl)
theorem dX10_text_84 : decode cX10_text 84 = .ok (.aload_n 0, 1) := @dq_o42 cX10_text 84 (qX10_text_5 4 42 rfl)
theorem dX10_text_85 : decode cX10_text 85 = .ok (.getfield 12, 3) := @dq_o180 cX10_text 85 0 12 (qX10_text_5 5 180 rfl) (qX10_text_5 6 0 rfl) (qX10_text_5 7 12 rfl)
theorem dX10_text_88 : decode cX10_text 88 = .ok (.getfield 267, 3) := @dq_o180 cX10_text 88 1 11 (qX10_text_5 8 180 rfl) (qX10_text_5 9 1 rfl) (qX10_text_5 10 11 rfl)
theorem dX10_text_91 : decode cX10_text 91 = .ok (.iconst 0, 1) := @dq_o3 cX10_text 91 (qX10_text_5 11 3 rfl)
theorem dX10_text_92 : decode cX10_text 92 = .ok (.dup2, 1) := @dq_o92 cX10_text 92 (qX10_text_5 12 92 rfl)
theorem dX10_text_93 : decode cX10_text 93 = .ok (.iaload, 1) := @dq_o46 cX10_text 93 (qX10_text_5 13 46 rfl)
theorem dX10_text_94 : decode cX10_text 94 = .ok (.iconst 1, 1) := @dq_o4 cX10_text 94 (qX10_text_5 14 4 rfl)
theorem dX10_text_95 : decode cX10_text 95 = .ok (.iadd, 1) := @dq_o96 cX10_text 95 (qX10_text_5 15 96 rfl)
theorem dX10_text_96 : decode cX10_text 96 = .ok (.iastore, 1) := @dq_o79 cX10_text 96 (qX10_text_6 0 79 rfl)
theorem dX10_text_97 : decode cX10_text 97 = .ok (.iconst 0, 1) := @dq_o3 cX10_text 97 (qX10_text_6 1 3 rfl)
theorem dX10_text_98 : decode cX10_text 98 = .ok (.ireturn, 1) := @dq_o172 cX10_text 98 (qX10_text_6 2 172 rfl)
abbrev qaX10_fault_0 : List Nat := [27, 171, 0, 0, 0, 0, 0, 43, 0, 0, 0, 2, 0, 0, 0, 0]
abbrev qaX10_fault_1 : List Nat := [0, 0, 0, 27, 0, 0, 0, 1, 0, 0, 0, 35, 42, 180, 0, 94]
abbrev qaX10_fault_2 : List Nat := [180, 1, 8, 172, 42, 180, 0, 94, 180, 1, 14, 172, 2, 172]
def qtX10_fault_3 : List Nat := []
def qtX10_fault_2 : List Nat := qaX10_fault_2 ++ qtX10_fault_3
def qtX10_fault_1 : List Nat := qaX10_fault_1 ++ qtX10_fault_2
def qtX10_fault_0 : List Nat := qaX10_fault_0 ++ qtX10_fault_1
theorem qeX10_fault : cX10_fault.data.toList.map UInt8.toNat = qtX10_fault_0 := by decide +kernel
theorem qsX10_fault_0 : ∀ i, dqNth qtX10_fault_0 (0 + i) = dqNth qtX10_fault_0 i := fun i => by rw [Nat.zero_add]
theorem qsX10_fault_1 : ∀ i, dqNth qtX10_fault_0 (16 + i) = dqNth qtX10_fault_1 i := dq_step qsX10_fault_0 rfl rfl
theorem qsX10_fault_2 : ∀ i, dqNth qtX10_fault_0 (32 + i) = dqNth qtX10_fault_2 i := dq_step qsX10_fault_1 rfl rfl
theorem qX10_fault_0 (i b : Nat) (h : dqNth qaX10_fault_0 i = some b) : DqBy cX10_fault (0 + i) b := dqBy_of qeX10_fault ((qsX10_fault_0 i).trans (dq_in h))
theorem qX10_fault_1 (i b : Nat) (h : dqNth qaX10_fault_1 i = some b) : DqBy cX10_fault (16 + i) b := dqBy_of qeX10_fault ((qsX10_fault_1 i).trans (dq_in h))
theorem qX10_fault_2 (i b : Nat) (h : dqNth qaX10_fault_2 i = some b) : DqBy cX10_fault (32 + i) b := dqBy_of qeX10_fault ((qsX10_fault_2 i).trans (dq_in h))
theorem dX10_fault_0 : decode cX10_fault 0 = .ok (.iload_n 1, 1) := @dq_o27 cX10_fault 0 (qX10_fault_0 0 27 rfl)
theorem dX10_fault_1 : decode cX10_fault 1 = .ok (.lookupswitch 43 #[(0, 27), (1, 35)], 27) := by decide +kernel
theorem dX10_fault_28 : decode cX10_fault 28 = .ok (.aload_n 0, 1) := @dq_o42 cX10_fault 28 (qX10_fault_1 12 42 rfl)
theorem dX10_fault_29 : decode cX10_fault 29 = .ok (.getfield 94, 3) := @dq_o180 cX10_fault 29 0 94 (qX10_fault_1 13 180 rfl) (qX10_fault_1 14 0 rfl) (qX10_fault_1 15 94 rfl)
theorem dX10_fault_32 : decode cX10_fault 32 = .ok (.getfield 264, 3) := @dq_o180 cX10_fault 32 1 8 (qX10_fault_2 0 180 rfl) (qX10_fault_2 1 1 rfl) (qX10_fault_2 2 8 rfl)
theorem dX10_fault_35 : decode cX10_fault 35 = .ok (.ireturn, 1) := @dq_o172 cX10_fault 35 (qX10_fault_2 3 172 rfl)
theorem dX10_fault_36 : decode cX10_fault 36 = .ok (.aload_n 0, 1) := @dq_o42 cX10_fault 36 (qX10_fault_2 4 42 rfl)
theorem dX10_fault_37 : decode cX10_fault 37 = .ok (.getfield 94, 3) := @dq_o180 cX10_fault 37 0 94 (qX10_fault_2 5 180 rfl) (qX10_fault_2 6 0 rfl) (qX10_fault_2 7 94 rfl)
theorem dX10_fault_40 : decode cX10_fault 40 = .ok (.getfield 270, 3) := @dq_o180 cX10_fault 40 1 14 (qX10_fault_2 8 180 rfl) (qX10_fault_2 9 1 rfl) (qX10_fault_2 10 14 rfl)
theorem dX10_fault_43 : decode cX10_fault 43 = .ok (.ireturn, 1) := @dq_o172 cX10_fault 43 (qX10_fault_2 11 172 rfl)
theorem dX10_fault_44 : decode cX10_fault 44 = .ok (.iconst (-1), 1) := @dq_o2 cX10_fault 44 (qX10_fault_2 12 2 rfl)
theorem dX10_fault_45 : decode cX10_fault 45 = .ok (.ireturn, 1) := @dq_o172 cX10_fault 45 (qX10_fault_2 13 172 rfl)
abbrev qaX10_collect_0 : List Nat := [42, 180, 0, 38, 60, 42, 3, 181, 0, 38, 27, 16, 24, 164, 0, 5]
abbrev qaX10_collect_1 : List Nat := [2, 172, 42, 180, 0, 44, 182, 1, 17, 3, 61, 28, 27, 162, 0, 47]
abbrev qaX10_collect_2 : List Nat := [42, 180, 0, 34, 28, 46, 16, 97, 100, 62, 29, 155, 0, 17, 29, 42]
abbrev qaX10_collect_3 : List Nat := [180, 0, 12, 180, 0, 105, 180, 0, 178, 161, 0, 5, 2, 172, 42, 180]
abbrev qaX10_collect_4 : List Nat := [0, 44, 29, 182, 1, 20, 132, 2, 1, 167, 255, 210, 42, 180, 0, 44]
abbrev qaX10_collect_5 : List Nat := [42, 180, 0, 12, 180, 0, 105, 17, 3, 232, 182, 1, 23, 61, 28, 2]
abbrev qaX10_collect_6 : List Nat := [160, 0, 6, 16, 254, 172, 42, 180, 0, 12, 180, 1, 11, 4, 42, 180]
abbrev qaX10_collect_7 : List Nat := [0, 12, 180, 0, 105, 180, 0, 178, 79, 42, 180, 0, 44, 180, 1, 27]
abbrev qaX10_collect_8 : List Nat := [3, 42, 180, 0, 12, 180, 1, 11, 5, 16, 6, 184, 1, 30, 28, 172]
def qtX10_collect_9 : List Nat := []
def qtX10_collect_8 : List Nat := qaX10_collect_8 ++ qtX10_collect_9
def qtX10_collect_7 : List Nat := qaX10_collect_7 ++ qtX10_collect_8
def qtX10_collect_6 : List Nat := qaX10_collect_6 ++ qtX10_collect_7
def qtX10_collect_5 : List Nat := qaX10_collect_5 ++ qtX10_collect_6
def qtX10_collect_4 : List Nat := qaX10_collect_4 ++ qtX10_collect_5
def qtX10_collect_3 : List Nat := qaX10_collect_3 ++ qtX10_collect_4
def qtX10_collect_2 : List Nat := qaX10_collect_2 ++ qtX10_collect_3
def qtX10_collect_1 : List Nat := qaX10_collect_1 ++ qtX10_collect_2
def qtX10_collect_0 : List Nat := qaX10_collect_0 ++ qtX10_collect_1
theorem qeX10_collect : cX10_collect.data.toList.map UInt8.toNat = qtX10_collect_0 := by decide +kernel
theorem qsX10_collect_0 : ∀ i, dqNth qtX10_collect_0 (0 + i) = dqNth qtX10_collect_0 i := fun i => by rw [Nat.zero_add]
theorem qsX10_collect_1 : ∀ i, dqNth qtX10_collect_0 (16 + i) = dqNth qtX10_collect_1 i := dq_step qsX10_collect_0 rfl rfl
theorem qsX10_collect_2 : ∀ i, dqNth qtX10_collect_0 (32 + i) = dqNth qtX10_collect_2 i := dq_step qsX10_collect_1 rfl rfl
theorem qsX10_collect_3 : ∀ i, dqNth qtX10_collect_0 (48 + i) = dqNth qtX10_collect_3 i := dq_step qsX10_collect_2 rfl rfl
theorem qsX10_collect_4 : ∀ i, dqNth qtX10_collect_0 (64 + i) = dqNth qtX10_collect_4 i := dq_step qsX10_collect_3 rfl rfl
theorem qsX10_collect_5 : ∀ i, dqNth qtX10_collect_0 (80 + i) = dqNth qtX10_collect_5 i := dq_step qsX10_collect_4 rfl rfl
theorem qsX10_collect_6 : ∀ i, dqNth qtX10_collect_0 (96 + i) = dqNth qtX10_collect_6 i := dq_step qsX10_collect_5 rfl rfl
theorem qsX10_collect_7 : ∀ i, dqNth qtX10_collect_0 (112 + i) = dqNth qtX10_collect_7 i := dq_step qsX10_collect_6 rfl rfl
theorem qsX10_collect_8 : ∀ i, dqNth qtX10_collect_0 (128 + i) = dqNth qtX10_collect_8 i := dq_step qsX10_collect_7 rfl rfl
theorem qX10_collect_0 (i b : Nat) (h : dqNth qaX10_collect_0 i = some b) : DqBy cX10_collect (0 + i) b := dqBy_of qeX10_collect ((qsX10_collect_0 i).trans (dq_in h))
theorem qX10_collect_1 (i b : Nat) (h : dqNth qaX10_collect_1 i = some b) : DqBy cX10_collect (16 + i) b := dqBy_of qeX10_collect ((qsX10_collect_1 i).trans (dq_in h))
theorem qX10_collect_2 (i b : Nat) (h : dqNth qaX10_collect_2 i = some b) : DqBy cX10_collect (32 + i) b := dqBy_of qeX10_collect ((qsX10_collect_2 i).trans (dq_in h))
theorem qX10_collect_3 (i b : Nat) (h : dqNth qaX10_collect_3 i = some b) : DqBy cX10_collect (48 + i) b := dqBy_of qeX10_collect ((qsX10_collect_3 i).trans (dq_in h))
theorem qX10_collect_4 (i b : Nat) (h : dqNth qaX10_collect_4 i = some b) : DqBy cX10_collect (64 + i) b := dqBy_of qeX10_collect ((qsX10_collect_4 i).trans (dq_in h))
theorem qX10_collect_5 (i b : Nat) (h : dqNth qaX10_collect_5 i = some b) : DqBy cX10_collect (80 + i) b := dqBy_of qeX10_collect ((qsX10_collect_5 i).trans (dq_in h))
theorem qX10_collect_6 (i b : Nat) (h : dqNth qaX10_collect_6 i = some b) : DqBy cX10_collect (96 + i) b := dqBy_of qeX10_collect ((qsX10_collect_6 i).trans (dq_in h))
theorem qX10_collect_7 (i b : Nat) (h : dqNth qaX10_collect_7 i = some b) : DqBy cX10_collect (112 + i) b := dqBy_of qeX10_collect ((qsX10_collect_7 i).trans (dq_in h))
theorem qX10_collect_8 (i b : Nat) (h : dqNth qaX10_collect_8 i = some b) : DqBy cX10_collect (128 + i) b := dqBy_of qeX10_collect ((qsX10_collect_8 i).trans (dq_in h))
theorem dX10_collect_0 : decode cX10_collect 0 = .ok (.aload_n 0, 1) := @dq_o42 cX10_collect 0 (qX10_collect_0 0 42 rfl)
theorem dX10_collect_1 : decode cX10_collect 1 = .ok (.getfield 38, 3) := @dq_o180 cX10_collect 1 0 38 (qX10_collect_0 1 180 rfl) (qX10_collect_0 2 0 rfl) (qX10_collect_0 3 38 rfl)
theorem dX10_collect_4 : decode cX10_collect 4 = .ok (.istore_n 1, 1) := @dq_o60 cX10_collect 4 (qX10_collect_0 4 60 rfl)
theorem dX10_collect_5 : decode cX10_collect 5 = .ok (.aload_n 0, 1) := @dq_o42 cX10_collect 5 (qX10_collect_0 5 42 rfl)
theorem dX10_collect_6 : decode cX10_collect 6 = .ok (.iconst 0, 1) := @dq_o3 cX10_collect 6 (qX10_collect_0 6 3 rfl)
theorem dX10_collect_7 : decode cX10_collect 7 = .ok (.putfield 38, 3) := @dq_o181 cX10_collect 7 0 38 (qX10_collect_0 7 181 rfl) (qX10_collect_0 8 0 rfl) (qX10_collect_0 9 38 rfl)
theorem dX10_collect_10 : decode cX10_collect 10 = .ok (.iload_n 1, 1) := @dq_o27 cX10_collect 10 (qX10_collect_0 10 27 rfl)
theorem dX10_collect_11 : decode cX10_collect 11 = .ok (.bipush 24, 2) := @dq_o16 cX10_collect 11 24 (qX10_collect_0 11 16 rfl) (qX10_collect_0 12 24 rfl)
theorem dX10_collect_13 : decode cX10_collect 13 = .ok (.if_icmp .le 5, 3) := @dq_o164 cX10_collect 13 0 5 (qX10_collect_0 13 164 rfl) (qX10_collect_0 14 0 rfl) (qX10_collect_0 15 5 rfl)
theorem dX10_collect_16 : decode cX10_collect 16 = .ok (.iconst (-1), 1) := @dq_o2 cX10_collect 16 (qX10_collect_1 0 2 rfl)
theorem dX10_collect_17 : decode cX10_collect 17 = .ok (.ireturn, 1) := @dq_o172 cX10_collect 17 (qX10_collect_1 1 172 rfl)
theorem dX10_collect_18 : decode cX10_collect 18 = .ok (.aload_n 0, 1) := @dq_o42 cX10_collect 18 (qX10_collect_1 2 42 rfl)
theorem dX10_collect_19 : decode cX10_collect 19 = .ok (.getfield 44, 3) := @dq_o180 cX10_collect 19 0 44 (qX10_collect_1 3 180 rfl) (qX10_collect_1 4 0 rfl) (qX10_collect_1 5 44 rfl)
theorem dX10_collect_22 : decode cX10_collect 22 = .ok (.invokevirtual 273, 3) := @dq_o182 cX10_collect 22 1 17 (qX10_collect_1 6 182 rfl) (qX10_collect_1 7 1 rfl) (qX10_collect_1 8 17 rfl)
theorem dX10_collect_25 : decode cX10_collect 25 = .ok (.iconst 0, 1) := @dq_o3 cX10_collect 25 (qX10_collect_1 9 3 rfl)
theorem dX10_collect_26 : decode cX10_collect 26 = .ok (.istore_n 2, 1) := @dq_o61 cX10_collect 26 (qX10_collect_1 10 61 rfl)
theorem dX10_collect_27 : decode cX10_collect 27 = .ok (.iload_n 2, 1) := @dq_o28 cX10_collect 27 (qX10_collect_1 11 28 rfl)
theorem dX10_collect_28 : decode cX10_collect 28 = .ok (.iload_n 1, 1) := @dq_o27 cX10_collect 28 (qX10_collect_1 12 27 rfl)
theorem dX10_collect_29 : decode cX10_collect 29 = .ok (.if_icmp .ge 47, 3) := @dq_o162 cX10_collect 29 0 47 (qX10_collect_1 13 162 rfl) (qX10_collect_1 14 0 rfl) (qX10_collect_1 15 47 rfl)
theorem dX10_collect_32 : decode cX10_collect 32 = .ok (.aload_n 0, 1) := @dq_o42 cX10_collect 32 (qX10_collect_2 0 42 rfl)
theorem dX10_collect_33 : decode cX10_collect 33 = .ok (.getfield 34, 3) := @dq_o180 cX10_collect 33 0 34 (qX10_collect_2 1 180 rfl) (qX10_collect_2 2 0 rfl) (qX10_collect_2 3 34 rfl)
theorem dX10_collect_36 : decode cX10_collect 36 = .ok (.iload_n 2, 1) := @dq_o28 cX10_collect 36 (qX10_collect_2 4 28 rfl)
theorem dX10_collect_37 : decode cX10_collect 37 = .ok (.iaload, 1) := @dq_o46 cX10_collect 37 (qX10_collect_2 5 46 rfl)
theorem dX10_collect_38 : decode cX10_collect 38 = .ok (.bipush 97, 2) := @dq_o16 cX10_collect 38 97 (qX10_collect_2 6 16 rfl) (qX10_collect_2 7 97 rfl)
theorem dX10_collect_40 : decode cX10_collect 40 = .ok (.isub, 1) := @dq_o100 cX10_collect 40 (qX10_collect_2 8 100 rfl)
theorem dX10_collect_41 : decode cX10_collect 41 = .ok (.istore_n 3, 1) := @dq_o62 cX10_collect 41 (qX10_collect_2 9 62 rfl)
theorem dX10_collect_42 : decode cX10_collect 42 = .ok (.iload_n 3, 1) := @dq_o29 cX10_collect 42 (qX10_collect_2 10 29 rfl)
theorem dX10_collect_43 : decode cX10_collect 43 = .ok (.ifCond .lt 17, 3) := @dq_o155 cX10_collect 43 0 17 (qX10_collect_2 11 155 rfl) (qX10_collect_2 12 0 rfl) (qX10_collect_2 13 17 rfl)
theorem dX10_collect_46 : decode cX10_collect 46 = .ok (.iload_n 3, 1) := @dq_o29 cX10_collect 46 (qX10_collect_2 14 29 rfl)
theorem dX10_collect_47 : decode cX10_collect 47 = .ok (.aload_n 0, 1) := @dq_o42 cX10_collect 47 (qX10_collect_2 15 42 rfl)
theorem dX10_collect_48 : decode cX10_collect 48 = .ok (.getfield 12, 3) := @dq_o180 cX10_collect 48 0 12 (qX10_collect_3 0 180 rfl) (qX10_collect_3 1 0 rfl) (qX10_collect_3 2 12 rfl)
theorem dX10_collect_51 : decode cX10_collect 51 = .ok (.getfield 105, 3) := @dq_o180 cX10_collect 51 0 105 (qX10_collect_3 3 180 rfl) (qX10_collect_3 4 0 rfl) (qX10_collect_3 5 105 rfl)
theorem dX10_collect_54 : decode cX10_collect 54 = .ok (.getfield 178, 3) := @dq_o180 cX10_collect 54 0 178 (qX10_collect_3 6 180 rfl) (qX10_collect_3 7 0 rfl) (qX10_collect_3 8 178 rfl)
theorem dX10_collect_57 : decode cX10_collect 57 = .ok (.if_icmp .lt 5, 3) := @dq_o161 cX10_collect 57 0 5 (qX10_collect_3 9 161 rfl) (qX10_collect_3 10 0 rfl) (qX10_collect_3 11 5 rfl)
theorem dX10_collect_60 : decode cX10_collect 60 = .ok (.iconst (-1), 1) := @dq_o2 cX10_collect 60 (qX10_collect_3 12 2 rfl)
theorem dX10_collect_61 : decode cX10_collect 61 = .ok (.ireturn, 1) := @dq_o172 cX10_collect 61 (qX10_collect_3 13 172 rfl)
theorem dX10_collect_62 : decode cX10_collect 62 = .ok (.aload_n 0, 1) := @dq_o42 cX10_collect 62 (qX10_collect_3 14 42 rfl)
theorem dX10_collect_63 : decode cX10_collect 63 = .ok (.getfield 44, 3) := @dq_o180 cX10_collect 63 0 44 (qX10_collect_3 15 180 rfl) (qX10_collect_4 0 0 rfl) (qX10_collect_4 1 44 rfl)
theorem dX10_collect_66 : decode cX10_collect 66 = .ok (.iload_n 3, 1) := @dq_o29 cX10_collect 66 (qX10_collect_4 2 29 rfl)
theorem dX10_collect_67 : decode cX10_collect 67 = .ok (.invokevirtual 276, 3) := @dq_o182 cX10_collect 67 1 20 (qX10_collect_4 3 182 rfl) (qX10_collect_4 4 1 rfl) (qX10_collect_4 5 20 rfl)
theorem dX10_collect_70 : decode cX10_collect 70 = .ok (.iinc 2 1, 3) := @dq_o132 cX10_collect 70 2 1 (qX10_collect_4 6 132 rfl) (qX10_collect_4 7 2 rfl) (qX10_collect_4 8 1 rfl)
theorem dX10_collect_73 : decode cX10_collect 73 = .ok (.goto (-46), 3) := @dq_o167 cX10_collect 73 255 210 (qX10_collect_4 9 167 rfl) (qX10_collect_4 10 255 rfl) (qX10_collect_4 11 210 rfl)
theorem dX10_collect_76 : decode cX10_collect 76 = .ok (.aload_n 0, 1) := @dq_o42 cX10_collect 76 (qX10_collect_4 12 42 rfl)
theorem dX10_collect_77 : decode cX10_collect 77 = .ok (.getfield 44, 3) := @dq_o180 cX10_collect 77 0 44 (qX10_collect_4 13 180 rfl) (qX10_collect_4 14 0 rfl) (qX10_collect_4 15 44 rfl)
theorem dX10_collect_80 : decode cX10_collect 80 = .ok (.aload_n 0, 1) := @dq_o42 cX10_collect 80 (qX10_collect_5 0 42 rfl)
theorem dX10_collect_81 : decode cX10_collect 81 = .ok (.getfield 12, 3) := @dq_o180 cX10_collect 81 0 12 (qX10_collect_5 1 180 rfl) (qX10_collect_5 2 0 rfl) (qX10_collect_5 3 12 rfl)
theorem dX10_collect_84 : decode cX10_collect 84 = .ok (.getfield 105, 3) := @dq_o180 cX10_collect 84 0 105 (qX10_collect_5 4 180 rfl) (qX10_collect_5 5 0 rfl) (qX10_collect_5 6 105 rfl)
theorem dX10_collect_87 : decode cX10_collect 87 = .ok (.sipush 1000, 3) := @dq_o17 cX10_collect 87 3 232 (qX10_collect_5 7 17 rfl) (qX10_collect_5 8 3 rfl) (qX10_collect_5 9 232 rfl)
theorem dX10_collect_90 : decode cX10_collect 90 = .ok (.invokevirtual 279, 3) := @dq_o182 cX10_collect 90 1 23 (qX10_collect_5 10 182 rfl) (qX10_collect_5 11 1 rfl) (qX10_collect_5 12 23 rfl)
theorem dX10_collect_93 : decode cX10_collect 93 = .ok (.istore_n 2, 1) := @dq_o61 cX10_collect 93 (qX10_collect_5 13 61 rfl)
theorem dX10_collect_94 : decode cX10_collect 94 = .ok (.iload_n 2, 1) := @dq_o28 cX10_collect 94 (qX10_collect_5 14 28 rfl)
theorem dX10_collect_95 : decode cX10_collect 95 = .ok (.iconst (-1), 1) := @dq_o2 cX10_collect 95 (qX10_collect_5 15 2 rfl)
theorem dX10_collect_96 : decode cX10_collect 96 = .ok (.if_icmp .ne 6, 3) := @dq_o160 cX10_collect 96 0 6 (qX10_collect_6 0 160 rfl) (qX10_collect_6 1 0 rfl) (qX10_collect_6 2 6 rfl)
theorem dX10_collect_99 : decode cX10_collect 99 = .ok (.bipush (-2), 2) := @dq_o16 cX10_collect 99 254 (qX10_collect_6 3 16 rfl) (qX10_collect_6 4 254 rfl)
theorem dX10_collect_101 : decode cX10_collect 101 = .ok (.ireturn, 1) := @dq_o172 cX10_collect 101 (qX10_collect_6 5 172 rfl)
theorem dX10_collect_102 : decode cX10_collect 102 = .ok (.aload_n 0, 1) := @dq_o42 cX10_collect 102 (qX10_collect_6 6 42 rfl)
theorem dX10_collect_103 : decode cX10_collect 103 = .ok (.getfield 12, 3) := @dq_o180 cX10_collect 103 0 12 (qX10_collect_6 7 180 rfl) (qX10_collect_6 8 0 rfl) (qX10_collect_6 9 12 rfl)
theorem dX10_collect_106 : decode cX10_collect 106 = .ok (.getfield 267, 3) := @dq_o180 cX10_collect 106 1 11 (qX10_collect_6 10 180 rfl) (qX10_collect_6 11 1 rfl) (qX10_collect_6 12 11 rfl)
theorem dX10_collect_109 : decode cX10_collect 109 = .ok (.iconst 1, 1) := @dq_o4 cX10_collect 109 (qX10_collect_6 13 4 rfl)
theorem dX10_collect_110 : decode cX10_collect 110 = .ok (.aload_n 0, 1) := @dq_o42 cX10_collect 110 (qX10_collect_6 14 42 rfl)
theorem dX10_collect_111 : decode cX10_collect 111 = .ok (.getfield 12, 3) := @dq_o180 cX10_collect 111 0 12 (qX10_collect_6 15 180 rfl) (qX10_collect_7 0 0 rfl) (qX10_collect_7 1 12 rfl)
theorem dX10_collect_114 : decode cX10_collect 114 = .ok (.getfield 105, 3) := @dq_o180 cX10_collect 114 0 105 (qX10_collect_7 2 180 rfl) (qX10_collect_7 3 0 rfl) (qX10_collect_7 4 105 rfl)
theorem dX10_collect_117 : decode cX10_collect 117 = .ok (.getfield 178, 3) := @dq_o180 cX10_collect 117 0 178 (qX10_collect_7 5 180 rfl) (qX10_collect_7 6 0 rfl) (qX10_collect_7 7 178 rfl)
theorem dX10_collect_120 : decode cX10_collect 120 = .ok (.iastore, 1) := @dq_o79 cX10_collect 120 (qX10_collect_7 8 79 rfl)
theorem dX10_collect_121 : decode cX10_collect 121 = .ok (.aload_n 0, 1) := @dq_o42 cX10_collect 121 (qX10_collect_7 9 42 rfl)
theorem dX10_collect_122 : decode cX10_collect 122 = .ok (.getfield 44, 3) := @dq_o180 cX10_collect 122 0 44 (qX10_collect_7 10 180 rfl) (qX10_collect_7 11 0 rfl) (qX10_collect_7 12 44 rfl)
theorem dX10_collect_125 : decode cX10_collect 125 = .ok (.getfield 283, 3) := @dq_o180 cX10_collect 125 1 27 (qX10_collect_7 13 180 rfl) (qX10_collect_7 14 1 rfl) (qX10_collect_7 15 27 rfl)
theorem dX10_collect_128 : decode cX10_collect 128 = .ok (.iconst 0, 1) := @dq_o3 cX10_collect 128 (qX10_collect_8 0 3 rfl)
theorem dX10_collect_129 : decode cX10_collect 129 = .ok (.aload_n 0, 1) := @dq_o42 cX10_collect 129 (qX10_collect_8 1 42 rfl)
theorem dX10_collect_130 : decode cX10_collect 130 = .ok (.getfield 12, 3) := @dq_o180 cX10_collect 130 0 12 (qX10_collect_8 2 180 rfl) (qX10_collect_8 3 0 rfl) (qX10_collect_8 4 12 rfl)
theorem dX10_collect_133 : decode cX10_collect 133 = .ok (.getfield 267, 3) := @dq_o180 cX10_collect 133 1 11 (qX10_collect_8 5 180 rfl) (qX10_collect_8 6 1 rfl) (qX10_collect_8 7 11 rfl)
theorem dX10_collect_136 : decode cX10_collect 136 = .ok (.iconst 2, 1) := @dq_o5 cX10_collect 136 (qX10_collect_8 8 5 rfl)
theorem dX10_collect_137 : decode cX10_collect 137 = .ok (.bipush 6, 2) := @dq_o16 cX10_collect 137 6 (qX10_collect_8 9 16 rfl) (qX10_collect_8 10 6 rfl)
theorem dX10_collect_139 : decode cX10_collect 139 = .ok (.invokestatic 286, 3) := @dq_o184 cX10_collect 139 1 30 (qX10_collect_8 11 184 rfl) (qX10_collect_8 12 1 rfl) (qX10_collect_8 13 30 rfl)
theorem dX10_collect_142 : decode cX10_collect 142 = .ok (.iload_n 2, 1) := @dq_o28 cX10_collect 142 (qX10_collect_8 14 28 rfl)
theorem dX10_collect_143 : decode cX10_collect 143 = .ok (.ireturn, 1) := @dq_o172 cX10_collect 143 (qX10_collect_8 15 172 rfl)
abbrev qaX10_collected_0 : List Nat := [27, 4, 161, 0, 22, 27, 42, 180, 0, 12, 180, 1, 11, 4, 46, 163]
abbrev qaX10_collected_1 : List Nat := [0, 9, 27, 16, 6, 164, 0, 5, 2, 172, 42, 180, 0, 12, 180, 1]
abbrev qaX10_collected_2 : List Nat := [11, 5, 27, 96, 4, 100, 46, 172]
def qtX10_collected_3 : List Nat := []
def qtX10_collected_2 : List Nat := qaX10_collected_2 ++ qtX10_collected_3
def qtX10_collected_1 : List Nat := qaX10_collected_1 ++ qtX10_collected_2
def qtX10_collected_0 : List Nat := qaX10_collected_0 ++ qtX10_collected_1
theorem qeX10_collected : cX10_collected.data.toList.map UInt8.toNat = qtX10_collected_0 := by decide +kernel
theorem qsX10_collected_0 : ∀ i, dqNth qtX10_collected_0 (0 + i) = dqNth qtX10_collected_0 i := fun i => by rw [Nat.zero_add]
theorem qsX10_collected_1 : ∀ i, dqNth qtX10_collected_0 (16 + i) = dqNth qtX10_collected_1 i := dq_step qsX10_collected_0 rfl rfl
theorem qsX10_collected_2 : ∀ i, dqNth qtX10_collected_0 (32 + i) = dqNth qtX10_collected_2 i := dq_step qsX10_collected_1 rfl rfl
theorem qX10_collected_0 (i b : Nat) (h : dqNth qaX10_collected_0 i = some b) : DqBy cX10_collected (0 + i) b := dqBy_of qeX10_collected ((qsX10_collected_0 i).trans (dq_in h))
theorem qX10_collected_1 (i b : Nat) (h : dqNth qaX10_collected_1 i = some b) : DqBy cX10_collected (16 + i) b := dqBy_of qeX10_collected ((qsX10_collected_1 i).trans (dq_in h))
theorem qX10_collected_2 (i b : Nat) (h : dqNth qaX10_collected_2 i = some b) : DqBy cX10_collected (32 + i) b := dqBy_of qeX10_collected ((qsX10_collected_2 i).trans (dq_in h))
theorem dX10_collected_0 : decode cX10_collected 0 = .ok (.iload_n 1, 1) := @dq_o27 cX10_collected 0 (qX10_collected_0 0 27 rfl)
theorem dX10_collected_1 : decode cX10_collected 1 = .ok (.iconst 1, 1) := @dq_o4 cX10_collected 1 (qX10_collected_0 1 4 rfl)
theorem dX10_collected_2 : decode cX10_collected 2 = .ok (.if_icmp .lt 22, 3) := @dq_o161 cX10_collected 2 0 22 (qX10_collected_0 2 161 rfl) (qX10_collected_0 3 0 rfl) (qX10_collected_0 4 22 rfl)
theorem dX10_collected_5 : decode cX10_collected 5 = .ok (.iload_n 1, 1) := @dq_o27 cX10_collected 5 (qX10_collected_0 5 27 rfl)
theorem dX10_collected_6 : decode cX10_collected 6 = .ok (.aload_n 0, 1) := @dq_o42 cX10_collected 6 (qX10_collected_0 6 42 rfl)
theorem dX10_collected_7 : decode cX10_collected 7 = .ok (.getfield 12, 3) := @dq_o180 cX10_collected 7 0 12 (qX10_collected_0 7 180 rfl) (qX10_collected_0 8 0 rfl) (qX10_collected_0 9 12 rfl)
theorem dX10_collected_10 : decode cX10_collected 10 = .ok (.getfield 267, 3) := @dq_o180 cX10_collected 10 1 11 (qX10_collected_0 10 180 rfl) (qX10_collected_0 11 1 rfl) (qX10_collected_0 12 11 rfl)
theorem dX10_collected_13 : decode cX10_collected 13 = .ok (.iconst 1, 1) := @dq_o4 cX10_collected 13 (qX10_collected_0 13 4 rfl)
theorem dX10_collected_14 : decode cX10_collected 14 = .ok (.iaload, 1) := @dq_o46 cX10_collected 14 (qX10_collected_0 14 46 rfl)
theorem dX10_collected_15 : decode cX10_collected 15 = .ok (.if_icmp .gt 9, 3) := @dq_o163 cX10_collected 15 0 9 (qX10_collected_0 15 163 rfl) (qX10_collected_1 0 0 rfl) (qX10_collected_1 1 9 rfl)
theorem dX10_collected_18 : decode cX10_collected 18 = .ok (.iload_n 1, 1) := @dq_o27 cX10_collected 18 (qX10_collected_1 2 27 rfl)
theorem dX10_collected_19 : decode cX10_collected 19 = .ok (.bipush 6, 2) := @dq_o16 cX10_collected 19 6 (qX10_collected_1 3 16 rfl) (qX10_collected_1 4 6 rfl)
theorem dX10_collected_21 : decode cX10_collected 21 = .ok (.if_icmp .le 5, 3) := @dq_o164 cX10_collected 21 0 5 (qX10_collected_1 5 164 rfl) (qX10_collected_1 6 0 rfl) (qX10_collected_1 7 5 rfl)
theorem dX10_collected_24 : decode cX10_collected 24 = .ok (.iconst (-1), 1) := @dq_o2 cX10_collected 24 (qX10_collected_1 8 2 rfl)
theorem dX10_collected_25 : decode cX10_collected 25 = .ok (.ireturn, 1) := @dq_o172 cX10_collected 25 (qX10_collected_1 9 172 rfl)
theorem dX10_collected_26 : decode cX10_collected 26 = .ok (.aload_n 0, 1) := @dq_o42 cX10_collected 26 (qX10_collected_1 10 42 rfl)
theorem dX10_collected_27 : decode cX10_collected 27 = .ok (.getfield 12, 3) := @dq_o180 cX10_collected 27 0 12 (qX10_collected_1 11 180 rfl) (qX10_collected_1 12 0 rfl) (qX10_collected_1 13 12 rfl)
theorem dX10_collected_30 : decode cX10_collected 30 = .ok (.getfield 267, 3) := @dq_o180 cX10_collected 30 1 11 (qX10_collected_1 14 180 rfl) (qX10_collected_1 15 1 rfl) (qX10_collected_2 0 11 rfl)
theorem dX10_collected_33 : decode cX10_collected 33 = .ok (.iconst 2, 1) := @dq_o5 cX10_collected 33 (qX10_collected_2 1 5 rfl)
theorem dX10_collected_34 : decode cX10_collected 34 = .ok (.iload_n 1, 1) := @dq_o27 cX10_collected 34 (qX10_collected_2 2 27 rfl)
theorem dX10_collected_35 : decode cX10_collected 35 = .ok (.iadd, 1) := @dq_o96 cX10_collected 35 (qX10_collected_2 3 96 rfl)
theorem dX10_collected_36 : decode cX10_collected 36 = .ok (.iconst 1, 1) := @dq_o4 cX10_collected 36 (qX10_collected_2 4 4 rfl)
theorem dX10_collected_37 : decode cX10_collected 37 = .ok (.isub, 1) := @dq_o100 cX10_collected 37 (qX10_collected_2 5 100 rfl)
theorem dX10_collected_38 : decode cX10_collected 38 = .ok (.iaload, 1) := @dq_o46 cX10_collected 38 (qX10_collected_2 6 46 rfl)
theorem dX10_collected_39 : decode cX10_collected 39 = .ok (.ireturn, 1) := @dq_o172 cX10_collected 39 (qX10_collected_2 7 172 rfl)
abbrev qaX10_exponent_0 : List Nat := [27, 184, 0, 204, 153, 0, 11, 42, 28, 182, 0, 148, 154, 0, 7, 17]
abbrev qaX10_exponent_1 : List Nat := [216, 240, 172, 42, 180, 0, 12, 180, 0, 210, 27, 50, 28, 4, 100, 47]
abbrev qaX10_exponent_2 : List Nat := [136, 172]
def qtX10_exponent_3 : List Nat := []
def qtX10_exponent_2 : List Nat := qaX10_exponent_2 ++ qtX10_exponent_3
def qtX10_exponent_1 : List Nat := qaX10_exponent_1 ++ qtX10_exponent_2
def qtX10_exponent_0 : List Nat := qaX10_exponent_0 ++ qtX10_exponent_1
theorem qeX10_exponent : cX10_exponent.data.toList.map UInt8.toNat = qtX10_exponent_0 := by decide +kernel
theorem qsX10_exponent_0 : ∀ i, dqNth qtX10_exponent_0 (0 + i) = dqNth qtX10_exponent_0 i := fun i => by rw [Nat.zero_add]
theorem qsX10_exponent_1 : ∀ i, dqNth qtX10_exponent_0 (16 + i) = dqNth qtX10_exponent_1 i := dq_step qsX10_exponent_0 rfl rfl
theorem qsX10_exponent_2 : ∀ i, dqNth qtX10_exponent_0 (32 + i) = dqNth qtX10_exponent_2 i := dq_step qsX10_exponent_1 rfl rfl
theorem qX10_exponent_0 (i b : Nat) (h : dqNth qaX10_exponent_0 i = some b) : DqBy cX10_exponent (0 + i) b := dqBy_of qeX10_exponent ((qsX10_exponent_0 i).trans (dq_in h))
theorem qX10_exponent_1 (i b : Nat) (h : dqNth qaX10_exponent_1 i = some b) : DqBy cX10_exponent (16 + i) b := dqBy_of qeX10_exponent ((qsX10_exponent_1 i).trans (dq_in h))
theorem qX10_exponent_2 (i b : Nat) (h : dqNth qaX10_exponent_2 i = some b) : DqBy cX10_exponent (32 + i) b := dqBy_of qeX10_exponent ((qsX10_exponent_2 i).trans (dq_in h))
theorem dX10_exponent_0 : decode cX10_exponent 0 = .ok (.iload_n 1, 1) := @dq_o27 cX10_exponent 0 (qX10_exponent_0 0 27 rfl)
theorem dX10_exponent_1 : decode cX10_exponent 1 = .ok (.invokestatic 204, 3) := @dq_o184 cX10_exponent 1 0 204 (qX10_exponent_0 1 184 rfl) (qX10_exponent_0 2 0 rfl) (qX10_exponent_0 3 204 rfl)
theorem dX10_exponent_4 : decode cX10_exponent 4 = .ok (.ifCond .eq 11, 3) := @dq_o153 cX10_exponent 4 0 11 (qX10_exponent_0 4 153 rfl) (qX10_exponent_0 5 0 rfl) (qX10_exponent_0 6 11 rfl)
theorem dX10_exponent_7 : decode cX10_exponent 7 = .ok (.aload_n 0, 1) := @dq_o42 cX10_exponent 7 (qX10_exponent_0 7 42 rfl)
theorem dX10_exponent_8 : decode cX10_exponent 8 = .ok (.iload_n 2, 1) := @dq_o28 cX10_exponent 8 (qX10_exponent_0 8 28 rfl)
theorem dX10_exponent_9 : decode cX10_exponent 9 = .ok (.invokevirtual 148, 3) := @dq_o182 cX10_exponent 9 0 148 (qX10_exponent_0 9 182 rfl) (qX10_exponent_0 10 0 rfl) (qX10_exponent_0 11 148 rfl)
theorem dX10_exponent_12 : decode cX10_exponent 12 = .ok (.ifCond .ne 7, 3) := @dq_o154 cX10_exponent 12 0 7 (qX10_exponent_0 12 154 rfl) (qX10_exponent_0 13 0 rfl) (qX10_exponent_0 14 7 rfl)
theorem dX10_exponent_15 : decode cX10_exponent 15 = .ok (.sipush (-10000), 3) := @dq_o17 cX10_exponent 15 216 240 (qX10_exponent_0 15 17 rfl) (qX10_exponent_1 0 216 rfl) (qX10_exponent_1 1 240 rfl)
theorem dX10_exponent_18 : decode cX10_exponent 18 = .ok (.ireturn, 1) := @dq_o172 cX10_exponent 18 (qX10_exponent_1 2 172 rfl)
theorem dX10_exponent_19 : decode cX10_exponent 19 = .ok (.aload_n 0, 1) := @dq_o42 cX10_exponent 19 (qX10_exponent_1 3 42 rfl)
theorem dX10_exponent_20 : decode cX10_exponent 20 = .ok (.getfield 12, 3) := @dq_o180 cX10_exponent 20 0 12 (qX10_exponent_1 4 180 rfl) (qX10_exponent_1 5 0 rfl) (qX10_exponent_1 6 12 rfl)
theorem dX10_exponent_23 : decode cX10_exponent 23 = .ok (.getfield 210, 3) := @dq_o180 cX10_exponent 23 0 210 (qX10_exponent_1 7 180 rfl) (qX10_exponent_1 8 0 rfl) (qX10_exponent_1 9 210 rfl)
theorem dX10_exponent_26 : decode cX10_exponent 26 = .ok (.iload_n 1, 1) := @dq_o27 cX10_exponent 26 (qX10_exponent_1 10 27 rfl)
theorem dX10_exponent_27 : decode cX10_exponent 27 = .ok (.aaload, 1) := @dq_o50 cX10_exponent 27 (qX10_exponent_1 11 50 rfl)
theorem dX10_exponent_28 : decode cX10_exponent 28 = .ok (.iload_n 2, 1) := @dq_o28 cX10_exponent 28 (qX10_exponent_1 12 28 rfl)
theorem dX10_exponent_29 : decode cX10_exponent 29 = .ok (.iconst 1, 1) := @dq_o4 cX10_exponent 29 (qX10_exponent_1 13 4 rfl)
theorem dX10_exponent_30 : decode cX10_exponent 30 = .ok (.isub, 1) := @dq_o100 cX10_exponent 30 (qX10_exponent_1 14 100 rfl)
theorem dX10_exponent_31 : decode cX10_exponent 31 = .ok (.laload, 1) := @dq_o47 cX10_exponent 31 (qX10_exponent_1 15 47 rfl)
theorem dX10_exponent_32 : decode cX10_exponent 32 = .ok (.l2i, 1) := @dq_o136 cX10_exponent 32 (qX10_exponent_2 0 136 rfl)
theorem dX10_exponent_33 : decode cX10_exponent 33 = .ok (.ireturn, 1) := @dq_o172 cX10_exponent 33 (qX10_exponent_2 1 172 rfl)
abbrev qaX10_register_0 : List Nat := [27, 184, 0, 204, 153, 0, 13, 42, 180, 0, 53, 180, 0, 141, 154, 0]
abbrev qaX10_register_1 : List Nat := [5, 2, 172, 42, 180, 0, 12, 180, 0, 210, 27, 50, 78, 28, 170, 0]
abbrev qaX10_register_2 : List Nat := [0, 0, 0, 105, 0, 0, 0, 0, 0, 0, 0, 7, 0, 0, 0, 46]
abbrev qaX10_register_3 : List Nat := [0, 0, 0, 52, 0, 0, 0, 61, 0, 0, 0, 69, 0, 0, 0, 78]
abbrev qaX10_register_4 : List Nat := [0, 0, 0, 84, 0, 0, 0, 90, 0, 0, 0, 97, 42, 45, 182, 1]
abbrev qaX10_register_5 : List Nat := [36, 172, 42, 45, 182, 1, 40, 184, 0, 144, 172, 45, 184, 1, 44, 184]
abbrev qaX10_register_6 : List Nat := [0, 144, 172, 42, 180, 0, 78, 45, 182, 1, 47, 172, 42, 45, 182, 1]
abbrev qaX10_register_7 : List Nat := [50, 172, 42, 45, 182, 1, 53, 172, 42, 45, 4, 182, 1, 56, 172, 42]
abbrev qaX10_register_8 : List Nat := [45, 16, 99, 182, 1, 56, 172, 2, 172]
def qtX10_register_9 : List Nat := []
def qtX10_register_8 : List Nat := qaX10_register_8 ++ qtX10_register_9
def qtX10_register_7 : List Nat := qaX10_register_7 ++ qtX10_register_8
def qtX10_register_6 : List Nat := qaX10_register_6 ++ qtX10_register_7
def qtX10_register_5 : List Nat := qaX10_register_5 ++ qtX10_register_6
def qtX10_register_4 : List Nat := qaX10_register_4 ++ qtX10_register_5
def qtX10_register_3 : List Nat := qaX10_register_3 ++ qtX10_register_4
def qtX10_register_2 : List Nat := qaX10_register_2 ++ qtX10_register_3
def qtX10_register_1 : List Nat := qaX10_register_1 ++ qtX10_register_2
def qtX10_register_0 : List Nat := qaX10_register_0 ++ qtX10_register_1
theorem qeX10_register : cX10_register.data.toList.map UInt8.toNat = qtX10_register_0 := by decide +kernel
theorem qsX10_register_0 : ∀ i, dqNth qtX10_register_0 (0 + i) = dqNth qtX10_register_0 i := fun i => by rw [Nat.zero_add]
theorem qsX10_register_1 : ∀ i, dqNth qtX10_register_0 (16 + i) = dqNth qtX10_register_1 i := dq_step qsX10_register_0 rfl rfl
theorem qsX10_register_2 : ∀ i, dqNth qtX10_register_0 (32 + i) = dqNth qtX10_register_2 i := dq_step qsX10_register_1 rfl rfl
theorem qsX10_register_3 : ∀ i, dqNth qtX10_register_0 (48 + i) = dqNth qtX10_register_3 i := dq_step qsX10_register_2 rfl rfl
theorem qsX10_register_4 : ∀ i, dqNth qtX10_register_0 (64 + i) = dqNth qtX10_register_4 i := dq_step qsX10_register_3 rfl rfl
theorem qsX10_register_5 : ∀ i, dqNth qtX10_register_0 (80 + i) = dqNth qtX10_register_5 i := dq_step qsX10_register_4 rfl rfl
theorem qsX10_register_6 : ∀ i, dqNth qtX10_register_0 (96 + i) = dqNth qtX10_register_6 i := dq_step qsX10_register_5 rfl rfl
theorem qsX10_register_7 : ∀ i, dqNth qtX10_register_0 (112 + i) = dqNth qtX10_register_7 i := dq_step qsX10_register_6 rfl rfl
theorem qsX10_register_8 : ∀ i, dqNth qtX10_register_0 (128 + i) = dqNth qtX10_register_8 i := dq_step qsX10_register_7 rfl rfl
theorem qX10_register_0 (i b : Nat) (h : dqNth qaX10_register_0 i = some b) : DqBy cX10_register (0 + i) b := dqBy_of qeX10_register ((qsX10_register_0 i).trans (dq_in h))
theorem qX10_register_1 (i b : Nat) (h : dqNth qaX10_register_1 i = some b) : DqBy cX10_register (16 + i) b := dqBy_of qeX10_register ((qsX10_register_1 i).trans (dq_in h))
theorem qX10_register_2 (i b : Nat) (h : dqNth qaX10_register_2 i = some b) : DqBy cX10_register (32 + i) b := dqBy_of qeX10_register ((qsX10_register_2 i).trans (dq_in h))
theorem qX10_register_3 (i b : Nat) (h : dqNth qaX10_register_3 i = some b) : DqBy cX10_register (48 + i) b := dqBy_of qeX10_register ((qsX10_register_3 i).trans (dq_in h))
theorem qX10_register_4 (i b : Nat) (h : dqNth qaX10_register_4 i = some b) : DqBy cX10_register (64 + i) b := dqBy_of qeX10_register ((qsX10_register_4 i).trans (dq_in h))
theorem qX10_register_5 (i b : Nat) (h : dqNth qaX10_register_5 i = some b) : DqBy cX10_register (80 + i) b := dqBy_of qeX10_register ((qsX10_register_5 i).trans (dq_in h))
theorem qX10_register_6 (i b : Nat) (h : dqNth qaX10_register_6 i = some b) : DqBy cX10_register (96 + i) b := dqBy_of qeX10_register ((qsX10_register_6 i).trans (dq_in h))
theorem qX10_register_7 (i b : Nat) (h : dqNth qaX10_register_7 i = some b) : DqBy cX10_register (112 + i) b := dqBy_of qeX10_register ((qsX10_register_7 i).trans (dq_in h))
theorem qX10_register_8 (i b : Nat) (h : dqNth qaX10_register_8 i = some b) : DqBy cX10_register (128 + i) b := dqBy_of qeX10_register ((qsX10_register_8 i).trans (dq_in h))
theorem dX10_register_0 : decode cX10_register 0 = .ok (.iload_n 1, 1) := @dq_o27 cX10_register 0 (qX10_register_0 0 27 rfl)
theorem dX10_register_1 : decode cX10_register 1 = .ok (.invokestatic 204, 3) := @dq_o184 cX10_register 1 0 204 (qX10_register_0 1 184 rfl) (qX10_register_0 2 0 rfl) (qX10_register_0 3 204 rfl)
theorem dX10_register_4 : decode cX10_register 4 = .ok (.ifCond .eq 13, 3) := @dq_o153 cX10_register 4 0 13 (qX10_register_0 4 153 rfl) (qX10_register_0 5 0 rfl) (qX10_register_0 6 13 rfl)
theorem dX10_register_7 : decode cX10_register 7 = .ok (.aload_n 0, 1) := @dq_o42 cX10_register 7 (qX10_register_0 7 42 rfl)
theorem dX10_register_8 : decode cX10_register 8 = .ok (.getfield 53, 3) := @dq_o180 cX10_register 8 0 53 (qX10_register_0 8 180 rfl) (qX10_register_0 9 0 rfl) (qX10_register_0 10 53 rfl)
theorem dX10_register_11 : decode cX10_register 11 = .ok (.getfield 141, 3) := @dq_o180 cX10_register 11 0 141 (qX10_register_0 11 180 rfl) (qX10_register_0 12 0 rfl) (qX10_register_0 13 141 rfl)
theorem dX10_register_14 : decode cX10_register 14 = .ok (.ifCond .ne 5, 3) := @dq_o154 cX10_register 14 0 5 (qX10_register_0 14 154 rfl) (qX10_register_0 15 0 rfl) (qX10_register_1 0 5 rfl)
theorem dX10_register_17 : decode cX10_register 17 = .ok (.iconst (-1), 1) := @dq_o2 cX10_register 17 (qX10_register_1 1 2 rfl)
theorem dX10_register_18 : decode cX10_register 18 = .ok (.ireturn, 1) := @dq_o172 cX10_register 18 (qX10_register_1 2 172 rfl)
theorem dX10_register_19 : decode cX10_register 19 = .ok (.aload_n 0, 1) := @dq_o42 cX10_register 19 (qX10_register_1 3 42 rfl)
theorem dX10_register_20 : decode cX10_register 20 = .ok (.getfield 12, 3) := @dq_o180 cX10_register 20 0 12 (qX10_register_1 4 180 rfl) (qX10_register_1 5 0 rfl) (qX10_register_1 6 12 rfl)
theorem dX10_register_23 : decode cX10_register 23 = .ok (.getfield 210, 3) := @dq_o180 cX10_register 23 0 210 (qX10_register_1 7 180 rfl) (qX10_register_1 8 0 rfl) (qX10_register_1 9 210 rfl)
theorem dX10_register_26 : decode cX10_register 26 = .ok (.iload_n 1, 1) := @dq_o27 cX10_register 26 (qX10_register_1 10 27 rfl)
theorem dX10_register_27 : decode cX10_register 27 = .ok (.aaload, 1) := @dq_o50 cX10_register 27 (qX10_register_1 11 50 rfl)
theorem dX10_register_28 : decode cX10_register 28 = .ok (.astore_n 3, 1) := @dq_o78 cX10_register 28 (qX10_register_1 12 78 rfl)
theorem dX10_register_29 : decode cX10_register 29 = .ok (.iload_n 2, 1) := @dq_o28 cX10_register 29 (qX10_register_1 13 28 rfl)
theorem dX10_register_30 : decode cX10_register 30 = .ok (.tableswitch 105 0 7 #[46, 52, 61, 69, 78, 84, 90, 97], 46) := by decide +kernel
theorem dX10_register_76 : decode cX10_register 76 = .ok (.aload_n 0, 1) := @dq_o42 cX10_register 76 (qX10_register_4 12 42 rfl)
theorem dX10_register_77 : decode cX10_register 77 = .ok (.aload_n 3, 1) := @dq_o45 cX10_register 77 (qX10_register_4 13 45 rfl)
theorem dX10_register_78 : decode cX10_register 78 = .ok (.invokevirtual 292, 3) := @dq_o182 cX10_register 78 1 36 (qX10_register_4 14 182 rfl) (qX10_register_4 15 1 rfl) (qX10_register_5 0 36 rfl)
theorem dX10_register_81 : decode cX10_register 81 = .ok (.ireturn, 1) := @dq_o172 cX10_register 81 (qX10_register_5 1 172 rfl)
theorem dX10_register_82 : decode cX10_register 82 = .ok (.aload_n 0, 1) := @dq_o42 cX10_register 82 (qX10_register_5 2 42 rfl)
theorem dX10_register_83 : decode cX10_register 83 = .ok (.aload_n 3, 1) := @dq_o45 cX10_register 83 (qX10_register_5 3 45 rfl)
theorem dX10_register_84 : decode cX10_register 84 = .ok (.invokevirtual 296, 3) := @dq_o182 cX10_register 84 1 40 (qX10_register_5 4 182 rfl) (qX10_register_5 5 1 rfl) (qX10_register_5 6 40 rfl)
theorem dX10_register_87 : decode cX10_register 87 = .ok (.invokestatic 144, 3) := @dq_o184 cX10_register 87 0 144 (qX10_register_5 7 184 rfl) (qX10_register_5 8 0 rfl) (qX10_register_5 9 144 rfl)
theorem dX10_register_90 : decode cX10_register 90 = .ok (.ireturn, 1) := @dq_o172 cX10_register 90 (qX10_register_5 10 172 rfl)
theorem dX10_register_91 : decode cX10_register 91 = .ok (.aload_n 3, 1) := @dq_o45 cX10_register 91 (qX10_register_5 11 45 rfl)
theorem dX10_register_92 : decode cX10_register 92 = .ok (.invokestatic 300, 3) := @dq_o184 cX10_register 92 1 44 (qX10_register_5 12 184 rfl) (qX10_register_5 13 1 rfl) (qX10_register_5 14 44 rfl)
theorem dX10_register_95 : decode cX10_register 95 = .ok (.invokestatic 144, 3) := @dq_o184 cX10_register 95 0 144 (qX10_register_5 15 184 rfl) (qX10_register_6 0 0 rfl) (qX10_register_6 1 144 rfl)
theorem dX10_register_98 : decode cX10_register 98 = .ok (.ireturn, 1) := @dq_o172 cX10_register 98 (qX10_register_6 2 172 rfl)
theorem dX10_register_99 : decode cX10_register 99 = .ok (.aload_n 0, 1) := @dq_o42 cX10_register 99 (qX10_register_6 3 42 rfl)
theorem dX10_register_100 : decode cX10_register 100 = .ok (.getfield 78, 3) := @dq_o180 cX10_register 100 0 78 (qX10_register_6 4 180 rfl) (qX10_register_6 5 0 rfl) (qX10_register_6 6 78 rfl)
theorem dX10_register_103 : decode cX10_register 103 = .ok (.aload_n 3, 1) := @dq_o45 cX10_register 103 (qX10_register_6 7 45 rfl)
theorem dX10_register_104 : decode cX10_register 104 = .ok (.invokevirtual 303, 3) := @dq_o182 cX10_register 104 1 47 (qX10_register_6 8 182 rfl) (qX10_register_6 9 1 rfl) (qX10_register_6 10 47 rfl)
theorem dX10_register_107 : decode cX10_register 107 = .ok (.ireturn, 1) := @dq_o172 cX10_register 107 (qX10_register_6 11 172 rfl)
theorem dX10_register_108 : decode cX10_register 108 = .ok (.aload_n 0, 1) := @dq_o42 cX10_register 108 (qX10_register_6 12 42 rfl)
theorem dX10_register_109 : decode cX10_register 109 = .ok (.aload_n 3, 1) := @dq_o45 cX10_register 109 (qX10_register_6 13 45 rfl)
theorem dX10_register_110 : decode cX10_register 110 = .ok (.invokevirtual 306, 3) := @dq_o182 cX10_register 110 1 50 (qX10_register_6 14 182 rfl) (qX10_register_6 15 1 rfl) (qX10_register_7 0 50 rfl)
theorem dX10_register_113 : decode cX10_register 113 = .ok (.ireturn, 1) := @dq_o172 cX10_register 113 (qX10_register_7 1 172 rfl)
theorem dX10_register_114 : decode cX10_register 114 = .ok (.aload_n 0, 1) := @dq_o42 cX10_register 114 (qX10_register_7 2 42 rfl)
theorem dX10_register_115 : decode cX10_register 115 = .ok (.aload_n 3, 1) := @dq_o45 cX10_register 115 (qX10_register_7 3 45 rfl)
theorem dX10_register_116 : decode cX10_register 116 = .ok (.invokevirtual 309, 3) := @dq_o182 cX10_register 116 1 53 (qX10_register_7 4 182 rfl) (qX10_register_7 5 1 rfl) (qX10_register_7 6 53 rfl)
theorem dX10_register_119 : decode cX10_register 119 = .ok (.ireturn, 1) := @dq_o172 cX10_register 119 (qX10_register_7 7 172 rfl)
theorem dX10_register_120 : decode cX10_register 120 = .ok (.aload_n 0, 1) := @dq_o42 cX10_register 120 (qX10_register_7 8 42 rfl)
theorem dX10_register_121 : decode cX10_register 121 = .ok (.aload_n 3, 1) := @dq_o45 cX10_register 121 (qX10_register_7 9 45 rfl)
theorem dX10_register_122 : decode cX10_register 122 = .ok (.iconst 1, 1) := @dq_o4 cX10_register 122 (qX10_register_7 10 4 rfl)
theorem dX10_register_123 : decode cX10_register 123 = .ok (.invokevirtual 312, 3) := @dq_o182 cX10_register 123 1 56 (qX10_register_7 11 182 rfl) (qX10_register_7 12 1 rfl) (qX10_register_7 13 56 rfl)
theorem dX10_register_126 : decode cX10_register 126 = .ok (.ireturn, 1) := @dq_o172 cX10_register 126 (qX10_register_7 14 172 rfl)
theorem dX10_register_127 : decode cX10_register 127 = .ok (.aload_n 0, 1) := @dq_o42 cX10_register 127 (qX10_register_7 15 42 rfl)
theorem dX10_register_128 : decode cX10_register 128 = .ok (.aload_n 3, 1) := @dq_o45 cX10_register 128 (qX10_register_8 0 45 rfl)
theorem dX10_register_129 : decode cX10_register 129 = .ok (.bipush 99, 2) := @dq_o16 cX10_register 129 99 (qX10_register_8 1 16 rfl) (qX10_register_8 2 99 rfl)
theorem dX10_register_131 : decode cX10_register 131 = .ok (.invokevirtual 312, 3) := @dq_o182 cX10_register 131 1 56 (qX10_register_8 3 182 rfl) (qX10_register_8 4 1 rfl) (qX10_register_8 5 56 rfl)
theorem dX10_register_134 : decode cX10_register 134 = .ok (.ireturn, 1) := @dq_o172 cX10_register 134 (qX10_register_8 6 172 rfl)
theorem dX10_register_135 : decode cX10_register 135 = .ok (.iconst (-1), 1) := @dq_o2 cX10_register 135 (qX10_register_8 7 2 rfl)
theorem dX10_register_136 : decode cX10_register 136 = .ok (.ireturn, 1) := @dq_o172 cX10_register 136 (qX10_register_8 8 172 rfl)
abbrev qaX10_both_0 : List Nat := [42, 27, 28, 182, 0, 214, 154, 0, 5, 2, 172, 42, 180, 0, 12, 180]
abbrev qaX10_both_1 : List Nat := [0, 210, 27, 50, 58, 4, 42, 180, 0, 12, 180, 0, 210, 28, 50, 58]
abbrev qaX10_both_2 : List Nat := [5, 29, 170, 0, 0, 0, 0, 74, 0, 0, 0, 0, 0, 0, 0, 2]
abbrev qaX10_both_3 : List Nat := [0, 0, 0, 26, 0, 0, 0, 41, 0, 0, 0, 65, 42, 180, 0, 62]
abbrev qaX10_both_4 : List Nat := [25, 4, 25, 5, 182, 1, 60, 184, 0, 144, 172, 42, 180, 0, 62, 42]
abbrev qaX10_both_5 : List Nat := [180, 0, 98, 25, 4, 25, 5, 182, 0, 232, 42, 42, 180, 0, 98, 182]
abbrev qaX10_both_6 : List Nat := [1, 36, 172, 42, 25, 4, 25, 5, 182, 1, 64, 172, 2, 172]
def qtX10_both_7 : List Nat := []
def qtX10_both_6 : List Nat := qaX10_both_6 ++ qtX10_both_7
def qtX10_both_5 : List Nat := qaX10_both_5 ++ qtX10_both_6
def qtX10_both_4 : List Nat := qaX10_both_4 ++ qtX10_both_5
def qtX10_both_3 : List Nat := qaX10_both_3 ++ qtX10_both_4
def qtX10_both_2 : List Nat := qaX10_both_2 ++ qtX10_both_3
def qtX10_both_1 : List Nat := qaX10_both_1 ++ qtX10_both_2
def qtX10_both_0 : List Nat := qaX10_both_0 ++ qtX10_both_1
theorem qeX10_both : cX10_both.data.toList.map UInt8.toNat = qtX10_both_0 := by decide +kernel
theorem qsX10_both_0 : ∀ i, dqNth qtX10_both_0 (0 + i) = dqNth qtX10_both_0 i := fun i => by rw [Nat.zero_add]
theorem qsX10_both_1 : ∀ i, dqNth qtX10_both_0 (16 + i) = dqNth qtX10_both_1 i := dq_step qsX10_both_0 rfl rfl
theorem qsX10_both_2 : ∀ i, dqNth qtX10_both_0 (32 + i) = dqNth qtX10_both_2 i := dq_step qsX10_both_1 rfl rfl
theorem qsX10_both_3 : ∀ i, dqNth qtX10_both_0 (48 + i) = dqNth qtX10_both_3 i := dq_step qsX10_both_2 rfl rfl
theorem qsX10_both_4 : ∀ i, dqNth qtX10_both_0 (64 + i) = dqNth qtX10_both_4 i := dq_step qsX10_both_3 rfl rfl
theorem qsX10_both_5 : ∀ i, dqNth qtX10_both_0 (80 + i) = dqNth qtX10_both_5 i := dq_step qsX10_both_4 rfl rfl
theorem qsX10_both_6 : ∀ i, dqNth qtX10_both_0 (96 + i) = dqNth qtX10_both_6 i := dq_step qsX10_both_5 rfl rfl
theorem qX10_both_0 (i b : Nat) (h : dqNth qaX10_both_0 i = some b) : DqBy cX10_both (0 + i) b := dqBy_of qeX10_both ((qsX10_both_0 i).trans (dq_in h))
theorem qX10_both_1 (i b : Nat) (h : dqNth qaX10_both_1 i = some b) : DqBy cX10_both (16 + i) b := dqBy_of qeX10_both ((qsX10_both_1 i).trans (dq_in h))
theorem qX10_both_2 (i b : Nat) (h : dqNth qaX10_both_2 i = some b) : DqBy cX10_both (32 + i) b := dqBy_of qeX10_both ((qsX10_both_2 i).trans (dq_in h))
theorem qX10_both_3 (i b : Nat) (h : dqNth qaX10_both_3 i = some b) : DqBy cX10_both (48 + i) b := dqBy_of qeX10_both ((qsX10_both_3 i).trans (dq_in h))
theorem qX10_both_4 (i b : Nat) (h : dqNth qaX10_both_4 i = some b) : DqBy cX10_both (64 + i) b := dqBy_of qeX10_both ((qsX10_both_4 i).trans (dq_in h))
theorem qX10_both_5 (i b : Nat) (h : dqNth qaX10_both_5 i = some b) : DqBy cX10_both (80 + i) b := dqBy_of qeX10_both ((qsX10_both_5 i).trans (dq_in h))
theorem qX10_both_6 (i b : Nat) (h : dqNth qaX10_both_6 i = some b) : DqBy cX10_both (96 + i) b := dqBy_of qeX10_both ((qsX10_both_6 i).trans (dq_in h))
theorem dX10_both_0 : decode cX10_both 0 = .ok (.aload_n 0, 1) := @dq_o42 cX10_both 0 (qX10_both_0 0 42 rfl)
theorem dX10_both_1 : decode cX10_both 1 = .ok (.iload_n 1, 1) := @dq_o27 cX10_both 1 (qX10_both_0 1 27 rfl)
theorem dX10_both_2 : decode cX10_both 2 = .ok (.iload_n 2, 1) := @dq_o28 cX10_both 2 (qX10_both_0 2 28 rfl)
theorem dX10_both_3 : decode cX10_both 3 = .ok (.invokevirtual 214, 3) := @dq_o182 cX10_both 3 0 214 (qX10_both_0 3 182 rfl) (qX10_both_0 4 0 rfl) (qX10_both_0 5 214 rfl)
theorem dX10_both_6 : decode cX10_both 6 = .ok (.ifCond .ne 5, 3) := @dq_o154 cX10_both 6 0 5 (qX10_both_0 6 154 rfl) (qX10_both_0 7 0 rfl) (qX10_both_0 8 5 rfl)
theorem dX10_both_9 : decode cX10_both 9 = .ok (.iconst (-1), 1) := @dq_o2 cX10_both 9 (qX10_both_0 9 2 rfl)
theorem dX10_both_10 : decode cX10_both 10 = .ok (.ireturn, 1) := @dq_o172 cX10_both 10 (qX10_both_0 10 172 rfl)
theorem dX10_both_11 : decode cX10_both 11 = .ok (.aload_n 0, 1) := @dq_o42 cX10_both 11 (qX10_both_0 11 42 rfl)
theorem dX10_both_12 : decode cX10_both 12 = .ok (.getfield 12, 3) := @dq_o180 cX10_both 12 0 12 (qX10_both_0 12 180 rfl) (qX10_both_0 13 0 rfl) (qX10_both_0 14 12 rfl)
theorem dX10_both_15 : decode cX10_both 15 = .ok (.getfield 210, 3) := @dq_o180 cX10_both 15 0 210 (qX10_both_0 15 180 rfl) (qX10_both_1 0 0 rfl) (qX10_both_1 1 210 rfl)
theorem dX10_both_18 : decode cX10_both 18 = .ok (.iload_n 1, 1) := @dq_o27 cX10_both 18 (qX10_both_1 2 27 rfl)
theorem dX10_both_19 : decode cX10_both 19 = .ok (.aaload, 1) := @dq_o50 cX10_both 19 (qX10_both_1 3 50 rfl)
theorem dX10_both_20 : decode cX10_both 20 = .ok (.astore 4, 2) := @dq_o58 cX10_both 20 4 (qX10_both_1 4 58 rfl) (qX10_both_1 5 4 rfl)
theorem dX10_both_22 : decode cX10_both 22 = .ok (.aload_n 0, 1) := @dq_o42 cX10_both 22 (qX10_both_1 6 42 rfl)
theorem dX10_both_23 : decode cX10_both 23 = .ok (.getfield 12, 3) := @dq_o180 cX10_both 23 0 12 (qX10_both_1 7 180 rfl) (qX10_both_1 8 0 rfl) (qX10_both_1 9 12 rfl)
theorem dX10_both_26 : decode cX10_both 26 = .ok (.getfield 210, 3) := @dq_o180 cX10_both 26 0 210 (qX10_both_1 10 180 rfl) (qX10_both_1 11 0 rfl) (qX10_both_1 12 210 rfl)
theorem dX10_both_29 : decode cX10_both 29 = .ok (.iload_n 2, 1) := @dq_o28 cX10_both 29 (qX10_both_1 13 28 rfl)
theorem dX10_both_30 : decode cX10_both 30 = .ok (.aaload, 1) := @dq_o50 cX10_both 30 (qX10_both_1 14 50 rfl)
theorem dX10_both_31 : decode cX10_both 31 = .ok (.astore 5, 2) := @dq_o58 cX10_both 31 5 (qX10_both_1 15 58 rfl) (qX10_both_2 0 5 rfl)
theorem dX10_both_33 : decode cX10_both 33 = .ok (.iload_n 3, 1) := @dq_o29 cX10_both 33 (qX10_both_2 1 29 rfl)
theorem dX10_both_34 : decode cX10_both 34 = .ok (.tableswitch 74 0 2 #[26, 41, 65], 26) := by decide +kernel
theorem dX10_both_60 : decode cX10_both 60 = .ok (.aload_n 0, 1) := @dq_o42 cX10_both 60 (qX10_both_3 12 42 rfl)
theorem dX10_both_61 : decode cX10_both 61 = .ok (.getfield 62, 3) := @dq_o180 cX10_both 61 0 62 (qX10_both_3 13 180 rfl) (qX10_both_3 14 0 rfl) (qX10_both_3 15 62 rfl)
theorem dX10_both_64 : decode cX10_both 64 = .ok (.aload 4, 2) := @dq_o25 cX10_both 64 4 (qX10_both_4 0 25 rfl) (qX10_both_4 1 4 rfl)
theorem dX10_both_66 : decode cX10_both 66 = .ok (.aload 5, 2) := @dq_o25 cX10_both 66 5 (qX10_both_4 2 25 rfl) (qX10_both_4 3 5 rfl)
theorem dX10_both_68 : decode cX10_both 68 = .ok (.invokevirtual 316, 3) := @dq_o182 cX10_both 68 1 60 (qX10_both_4 4 182 rfl) (qX10_both_4 5 1 rfl) (qX10_both_4 6 60 rfl)
theorem dX10_both_71 : decode cX10_both 71 = .ok (.invokestatic 144, 3) := @dq_o184 cX10_both 71 0 144 (qX10_both_4 7 184 rfl) (qX10_both_4 8 0 rfl) (qX10_both_4 9 144 rfl)
theorem dX10_both_74 : decode cX10_both 74 = .ok (.ireturn, 1) := @dq_o172 cX10_both 74 (qX10_both_4 10 172 rfl)
theorem dX10_both_75 : decode cX10_both 75 = .ok (.aload_n 0, 1) := @dq_o42 cX10_both 75 (qX10_both_4 11 42 rfl)
theorem dX10_both_76 : decode cX10_both 76 = .ok (.getfield 62, 3) := @dq_o180 cX10_both 76 0 62 (qX10_both_4 12 180 rfl) (qX10_both_4 13 0 rfl) (qX10_both_4 14 62 rfl)
theorem dX10_both_79 : decode cX10_both 79 = .ok (.aload_n 0, 1) := @dq_o42 cX10_both 79 (qX10_both_4 15 42 rfl)
theorem dX10_both_80 : decode cX10_both 80 = .ok (.getfield 98, 3) := @dq_o180 cX10_both 80 0 98 (qX10_both_5 0 180 rfl) (qX10_both_5 1 0 rfl) (qX10_both_5 2 98 rfl)
theorem dX10_both_83 : decode cX10_both 83 = .ok (.aload 4, 2) := @dq_o25 cX10_both 83 4 (qX10_both_5 3 25 rfl) (qX10_both_5 4 4 rfl)
theorem dX10_both_85 : decode cX10_both 85 = .ok (.aload 5, 2) := @dq_o25 cX10_both 85 5 (qX10_both_5 5 25 rfl) (qX10_both_5 6 5 rfl)
theorem dX10_both_87 : decode cX10_both 87 = .ok (.invokevirtual 232, 3) := @dq_o182 cX10_both 87 0 232 (qX10_both_5 7 182 rfl) (qX10_both_5 8 0 rfl) (qX10_both_5 9 232 rfl)
theorem dX10_both_90 : decode cX10_both 90 = .ok (.aload_n 0, 1) := @dq_o42 cX10_both 90 (qX10_both_5 10 42 rfl)
theorem dX10_both_91 : decode cX10_both 91 = .ok (.aload_n 0, 1) := @dq_o42 cX10_both 91 (qX10_both_5 11 42 rfl)
theorem dX10_both_92 : decode cX10_both 92 = .ok (.getfield 98, 3) := @dq_o180 cX10_both 92 0 98 (qX10_both_5 12 180 rfl) (qX10_both_5 13 0 rfl) (qX10_both_5 14 98 rfl)
theorem dX10_both_95 : decode cX10_both 95 = .ok (.invokevirtual 292, 3) := @dq_o182 cX10_both 95 1 36 (qX10_both_5 15 182 rfl) (qX10_both_6 0 1 rfl) (qX10_both_6 1 36 rfl)
theorem dX10_both_98 : decode cX10_both 98 = .ok (.ireturn, 1) := @dq_o172 cX10_both 98 (qX10_both_6 2 172 rfl)
theorem dX10_both_99 : decode cX10_both 99 = .ok (.aload_n 0, 1) := @dq_o42 cX10_both 99 (qX10_both_6 3 42 rfl)
theorem dX10_both_100 : decode cX10_both 100 = .ok (.aload 4, 2) := @dq_o25 cX10_both 100 4 (qX10_both_6 4 25 rfl) (qX10_both_6 5 4 rfl)
theorem dX10_both_102 : decode cX10_both 102 = .ok (.aload 5, 2) := @dq_o25 cX10_both 102 5 (qX10_both_6 6 25 rfl) (qX10_both_6 7 5 rfl)
theorem dX10_both_104 : decode cX10_both 104 = .ok (.invokevirtual 320, 3) := @dq_o182 cX10_both 104 1 64 (qX10_both_6 8 182 rfl) (qX10_both_6 9 1 rfl) (qX10_both_6 10 64 rfl)
theorem dX10_both_107 : decode cX10_both 107 = .ok (.ireturn, 1) := @dq_o172 cX10_both 107 (qX10_both_6 11 172 rfl)
theorem dX10_both_108 : decode cX10_both 108 = .ok (.iconst (-1), 1) := @dq_o2 cX10_both 108 (qX10_both_6 12 2 rfl)
theorem dX10_both_109 : decode cX10_both 109 = .ok (.ireturn, 1) := @dq_o172 cX10_both 109 (qX10_both_6 13 172 rfl)
abbrev qaX10_alike_0 : List Nat := [42, 27, 28, 182, 0, 214, 154, 0, 5, 2, 172, 42, 180, 0, 12, 180]
abbrev qaX10_alike_1 : List Nat := [0, 210, 27, 50, 78, 42, 180, 0, 12, 180, 0, 210, 28, 50, 58, 4]
abbrev qaX10_alike_2 : List Nat := [45, 20, 1, 68, 184, 1, 70, 153, 0, 14, 25, 4, 20, 1, 68, 184]
abbrev qaX10_alike_3 : List Nat := [1, 70, 154, 0, 6, 16, 254, 172, 42, 180, 0, 69, 45, 25, 4, 182]
abbrev qaX10_alike_4 : List Nat := [1, 74, 184, 0, 144, 172]
def qtX10_alike_5 : List Nat := []
def qtX10_alike_4 : List Nat := qaX10_alike_4 ++ qtX10_alike_5
def qtX10_alike_3 : List Nat := qaX10_alike_3 ++ qtX10_alike_4
def qtX10_alike_2 : List Nat := qaX10_alike_2 ++ qtX10_alike_3
def qtX10_alike_1 : List Nat := qaX10_alike_1 ++ qtX10_alike_2
def qtX10_alike_0 : List Nat := qaX10_alike_0 ++ qtX10_alike_1
theorem qeX10_alike : cX10_alike.data.toList.map UInt8.toNat = qtX10_alike_0 := by decide +kernel
theorem qsX10_alike_0 : ∀ i, dqNth qtX10_alike_0 (0 + i) = dqNth qtX10_alike_0 i := fun i => by rw [Nat.zero_add]
theorem qsX10_alike_1 : ∀ i, dqNth qtX10_alike_0 (16 + i) = dqNth qtX10_alike_1 i := dq_step qsX10_alike_0 rfl rfl
theorem qsX10_alike_2 : ∀ i, dqNth qtX10_alike_0 (32 + i) = dqNth qtX10_alike_2 i := dq_step qsX10_alike_1 rfl rfl
theorem qsX10_alike_3 : ∀ i, dqNth qtX10_alike_0 (48 + i) = dqNth qtX10_alike_3 i := dq_step qsX10_alike_2 rfl rfl
theorem qsX10_alike_4 : ∀ i, dqNth qtX10_alike_0 (64 + i) = dqNth qtX10_alike_4 i := dq_step qsX10_alike_3 rfl rfl
theorem qX10_alike_0 (i b : Nat) (h : dqNth qaX10_alike_0 i = some b) : DqBy cX10_alike (0 + i) b := dqBy_of qeX10_alike ((qsX10_alike_0 i).trans (dq_in h))
theorem qX10_alike_1 (i b : Nat) (h : dqNth qaX10_alike_1 i = some b) : DqBy cX10_alike (16 + i) b := dqBy_of qeX10_alike ((qsX10_alike_1 i).trans (dq_in h))
theorem qX10_alike_2 (i b : Nat) (h : dqNth qaX10_alike_2 i = some b) : DqBy cX10_alike (32 + i) b := dqBy_of qeX10_alike ((qsX10_alike_2 i).trans (dq_in h))
theorem qX10_alike_3 (i b : Nat) (h : dqNth qaX10_alike_3 i = some b) : DqBy cX10_alike (48 + i) b := dqBy_of qeX10_alike ((qsX10_alike_3 i).trans (dq_in h))
theorem qX10_alike_4 (i b : Nat) (h : dqNth qaX10_alike_4 i = some b) : DqBy cX10_alike (64 + i) b := dqBy_of qeX10_alike ((qsX10_alike_4 i).trans (dq_in h))
theorem dX10_alike_0 : decode cX10_alike 0 = .ok (.aload_n 0, 1) := @dq_o42 cX10_alike 0 (qX10_alike_0 0 42 rfl)
theorem dX10_alike_1 : decode cX10_alike 1 = .ok (.iload_n 1, 1) := @dq_o27 cX10_alike 1 (qX10_alike_0 1 27 rfl)
theorem dX10_alike_2 : decode cX10_alike 2 = .ok (.iload_n 2, 1) := @dq_o28 cX10_alike 2 (qX10_alike_0 2 28 rfl)
theorem dX10_alike_3 : decode cX10_alike 3 = .ok (.invokevirtual 214, 3) := @dq_o182 cX10_alike 3 0 214 (qX10_alike_0 3 182 rfl) (qX10_alike_0 4 0 rfl) (qX10_alike_0 5 214 rfl)
theorem dX10_alike_6 : decode cX10_alike 6 = .ok (.ifCond .ne 5, 3) := @dq_o154 cX10_alike 6 0 5 (qX10_alike_0 6 154 rfl) (qX10_alike_0 7 0 rfl) (qX10_alike_0 8 5 rfl)
theorem dX10_alike_9 : decode cX10_alike 9 = .ok (.iconst (-1), 1) := @dq_o2 cX10_alike 9 (qX10_alike_0 9 2 rfl)
theorem dX10_alike_10 : decode cX10_alike 10 = .ok (.ireturn, 1) := @dq_o172 cX10_alike 10 (qX10_alike_0 10 172 rfl)
theorem dX10_alike_11 : decode cX10_alike 11 = .ok (.aload_n 0, 1) := @dq_o42 cX10_alike 11 (qX10_alike_0 11 42 rfl)
theorem dX10_alike_12 : decode cX10_alike 12 = .ok (.getfield 12, 3) := @dq_o180 cX10_alike 12 0 12 (qX10_alike_0 12 180 rfl) (qX10_alike_0 13 0 rfl) (qX10_alike_0 14 12 rfl)
theorem dX10_alike_15 : decode cX10_alike 15 = .ok (.getfield 210, 3) := @dq_o180 cX10_alike 15 0 210 (qX10_alike_0 15 180 rfl) (qX10_alike_1 0 0 rfl) (qX10_alike_1 1 210 rfl)
theorem dX10_alike_18 : decode cX10_alike 18 = .ok (.iload_n 1, 1) := @dq_o27 cX10_alike 18 (qX10_alike_1 2 27 rfl)
theorem dX10_alike_19 : decode cX10_alike 19 = .ok (.aaload, 1) := @dq_o50 cX10_alike 19 (qX10_alike_1 3 50 rfl)
theorem dX10_alike_20 : decode cX10_alike 20 = .ok (.astore_n 3, 1) := @dq_o78 cX10_alike 20 (qX10_alike_1 4 78 rfl)
theorem dX10_alike_21 : decode cX10_alike 21 = .ok (.aload_n 0, 1) := @dq_o42 cX10_alike 21 (qX10_alike_1 5 42 rfl)
theorem dX10_alike_22 : decode cX10_alike 22 = .ok (.getfield 12, 3) := @dq_o180 cX10_alike 22 0 12 (qX10_alike_1 6 180 rfl) (qX10_alike_1 7 0 rfl) (qX10_alike_1 8 12 rfl)
theorem dX10_alike_25 : decode cX10_alike 25 = .ok (.getfield 210, 3) := @dq_o180 cX10_alike 25 0 210 (qX10_alike_1 9 180 rfl) (qX10_alike_1 10 0 rfl) (qX10_alike_1 11 210 rfl)
theorem dX10_alike_28 : decode cX10_alike 28 = .ok (.iload_n 2, 1) := @dq_o28 cX10_alike 28 (qX10_alike_1 12 28 rfl)
theorem dX10_alike_29 : decode cX10_alike 29 = .ok (.aaload, 1) := @dq_o50 cX10_alike 29 (qX10_alike_1 13 50 rfl)
theorem dX10_alike_30 : decode cX10_alike 30 = .ok (.astore 4, 2) := @dq_o58 cX10_alike 30 4 (qX10_alike_1 14 58 rfl) (qX10_alike_1 15 4 rfl)
theorem dX10_alike_32 : decode cX10_alike 32 = .ok (.aload_n 3, 1) := @dq_o45 cX10_alike 32 (qX10_alike_2 0 45 rfl)
theorem dX10_alike_33 : decode cX10_alike 33 = .ok (.ldc2_w 324, 3) := @dq_o20 cX10_alike 33 1 68 (qX10_alike_2 1 20 rfl) (qX10_alike_2 2 1 rfl) (qX10_alike_2 3 68 rfl)
theorem dX10_alike_36 : decode cX10_alike 36 = .ok (.invokestatic 326, 3) := @dq_o184 cX10_alike 36 1 70 (qX10_alike_2 4 184 rfl) (qX10_alike_2 5 1 rfl) (qX10_alike_2 6 70 rfl)
theorem dX10_alike_39 : decode cX10_alike 39 = .ok (.ifCond .eq 14, 3) := @dq_o153 cX10_alike 39 0 14 (qX10_alike_2 7 153 rfl) (qX10_alike_2 8 0 rfl) (qX10_alike_2 9 14 rfl)
theorem dX10_alike_42 : decode cX10_alike 42 = .ok (.aload 4, 2) := @dq_o25 cX10_alike 42 4 (qX10_alike_2 10 25 rfl) (qX10_alike_2 11 4 rfl)
theorem dX10_alike_44 : decode cX10_alike 44 = .ok (.ldc2_w 324, 3) := @dq_o20 cX10_alike 44 1 68 (qX10_alike_2 12 20 rfl) (qX10_alike_2 13 1 rfl) (qX10_alike_2 14 68 rfl)
theorem dX10_alike_47 : decode cX10_alike 47 = .ok (.invokestatic 326, 3) := @dq_o184 cX10_alike 47 1 70 (qX10_alike_2 15 184 rfl) (qX10_alike_3 0 1 rfl) (qX10_alike_3 1 70 rfl)
theorem dX10_alike_50 : decode cX10_alike 50 = .ok (.ifCond .ne 6, 3) := @dq_o154 cX10_alike 50 0 6 (qX10_alike_3 2 154 rfl) (qX10_alike_3 3 0 rfl) (qX10_alike_3 4 6 rfl)
theorem dX10_alike_53 : decode cX10_alike 53 = .ok (.bipush (-2), 2) := @dq_o16 cX10_alike 53 254 (qX10_alike_3 5 16 rfl) (qX10_alike_3 6 254 rfl)
theorem dX10_alike_55 : decode cX10_alike 55 = .ok (.ireturn, 1) := @dq_o172 cX10_alike 55 (qX10_alike_3 7 172 rfl)
theorem dX10_alike_56 : decode cX10_alike 56 = .ok (.aload_n 0, 1) := @dq_o42 cX10_alike 56 (qX10_alike_3 8 42 rfl)
theorem dX10_alike_57 : decode cX10_alike 57 = .ok (.getfield 69, 3) := @dq_o180 cX10_alike 57 0 69 (qX10_alike_3 9 180 rfl) (qX10_alike_3 10 0 rfl) (qX10_alike_3 11 69 rfl)
theorem dX10_alike_60 : decode cX10_alike 60 = .ok (.aload_n 3, 1) := @dq_o45 cX10_alike 60 (qX10_alike_3 12 45 rfl)
theorem dX10_alike_61 : decode cX10_alike 61 = .ok (.aload 4, 2) := @dq_o25 cX10_alike 61 4 (qX10_alike_3 13 25 rfl) (qX10_alike_3 14 4 rfl)
theorem dX10_alike_63 : decode cX10_alike 63 = .ok (.invokevirtual 330, 3) := @dq_o182 cX10_alike 63 1 74 (qX10_alike_3 15 182 rfl) (qX10_alike_4 0 1 rfl) (qX10_alike_4 1 74 rfl)
theorem dX10_alike_66 : decode cX10_alike 66 = .ok (.invokestatic 144, 3) := @dq_o184 cX10_alike 66 0 144 (qX10_alike_4 2 184 rfl) (qX10_alike_4 3 0 rfl) (qX10_alike_4 4 144 rfl)
theorem dX10_alike_69 : decode cX10_alike 69 = .ok (.ireturn, 1) := @dq_o172 cX10_alike 69 (qX10_alike_4 5 172 rfl)
abbrev qaX10_powers_0 : List Nat := [27, 184, 0, 204, 153, 0, 30, 42, 28, 182, 0, 148, 153, 0, 22, 29]
abbrev qaX10_powers_1 : List Nat := [155, 0, 18, 29, 6, 163, 0, 13, 42, 180, 0, 53, 180, 0, 141, 154]
abbrev qaX10_powers_2 : List Nat := [0, 7, 20, 1, 77, 173, 42, 180, 0, 62, 42, 180, 0, 12, 180, 0]
abbrev qaX10_powers_3 : List Nat := [210, 27, 50, 182, 1, 79, 42, 180, 0, 62, 28, 4, 100, 29, 182, 1]
abbrev qaX10_powers_4 : List Nat := [83, 173]
def qtX10_powers_5 : List Nat := []
def qtX10_powers_4 : List Nat := qaX10_powers_4 ++ qtX10_powers_5
def qtX10_powers_3 : List Nat := qaX10_powers_3 ++ qtX10_powers_4
def qtX10_powers_2 : List Nat := qaX10_powers_2 ++ qtX10_powers_3
def qtX10_powers_1 : List Nat := qaX10_powers_1 ++ qtX10_powers_2
def qtX10_powers_0 : List Nat := qaX10_powers_0 ++ qtX10_powers_1
theorem qeX10_powers : cX10_powers.data.toList.map UInt8.toNat = qtX10_powers_0 := by decide +kernel
theorem qsX10_powers_0 : ∀ i, dqNth qtX10_powers_0 (0 + i) = dqNth qtX10_powers_0 i := fun i => by rw [Nat.zero_add]
theorem qsX10_powers_1 : ∀ i, dqNth qtX10_powers_0 (16 + i) = dqNth qtX10_powers_1 i := dq_step qsX10_powers_0 rfl rfl
theorem qsX10_powers_2 : ∀ i, dqNth qtX10_powers_0 (32 + i) = dqNth qtX10_powers_2 i := dq_step qsX10_powers_1 rfl rfl
theorem qsX10_powers_3 : ∀ i, dqNth qtX10_powers_0 (48 + i) = dqNth qtX10_powers_3 i := dq_step qsX10_powers_2 rfl rfl
theorem qsX10_powers_4 : ∀ i, dqNth qtX10_powers_0 (64 + i) = dqNth qtX10_powers_4 i := dq_step qsX10_powers_3 rfl rfl
theorem qX10_powers_0 (i b : Nat) (h : dqNth qaX10_powers_0 i = some b) : DqBy cX10_powers (0 + i) b := dqBy_of qeX10_powers ((qsX10_powers_0 i).trans (dq_in h))
theorem qX10_powers_1 (i b : Nat) (h : dqNth qaX10_powers_1 i = some b) : DqBy cX10_powers (16 + i) b := dqBy_of qeX10_powers ((qsX10_powers_1 i).trans (dq_in h))
theorem qX10_powers_2 (i b : Nat) (h : dqNth qaX10_powers_2 i = some b) : DqBy cX10_powers (32 + i) b := dqBy_of qeX10_powers ((qsX10_powers_2 i).trans (dq_in h))
theorem qX10_powers_3 (i b : Nat) (h : dqNth qaX10_powers_3 i = some b) : DqBy cX10_powers (48 + i) b := dqBy_of qeX10_powers ((qsX10_powers_3 i).trans (dq_in h))
theorem qX10_powers_4 (i b : Nat) (h : dqNth qaX10_powers_4 i = some b) : DqBy cX10_powers (64 + i) b := dqBy_of qeX10_powers ((qsX10_powers_4 i).trans (dq_in h))
theorem dX10_powers_0 : decode cX10_powers 0 = .ok (.iload_n 1, 1) := @dq_o27 cX10_powers 0 (qX10_powers_0 0 27 rfl)
theorem dX10_powers_1 : decode cX10_powers 1 = .ok (.invokestatic 204, 3) := @dq_o184 cX10_powers 1 0 204 (qX10_powers_0 1 184 rfl) (qX10_powers_0 2 0 rfl) (qX10_powers_0 3 204 rfl)
theorem dX10_powers_4 : decode cX10_powers 4 = .ok (.ifCond .eq 30, 3) := @dq_o153 cX10_powers 4 0 30 (qX10_powers_0 4 153 rfl) (qX10_powers_0 5 0 rfl) (qX10_powers_0 6 30 rfl)
theorem dX10_powers_7 : decode cX10_powers 7 = .ok (.aload_n 0, 1) := @dq_o42 cX10_powers 7 (qX10_powers_0 7 42 rfl)
theorem dX10_powers_8 : decode cX10_powers 8 = .ok (.iload_n 2, 1) := @dq_o28 cX10_powers 8 (qX10_powers_0 8 28 rfl)
theorem dX10_powers_9 : decode cX10_powers 9 = .ok (.invokevirtual 148, 3) := @dq_o182 cX10_powers 9 0 148 (qX10_powers_0 9 182 rfl) (qX10_powers_0 10 0 rfl) (qX10_powers_0 11 148 rfl)
theorem dX10_powers_12 : decode cX10_powers 12 = .ok (.ifCond .eq 22, 3) := @dq_o153 cX10_powers 12 0 22 (qX10_powers_0 12 153 rfl) (qX10_powers_0 13 0 rfl) (qX10_powers_0 14 22 rfl)
theorem dX10_powers_15 : decode cX10_powers 15 = .ok (.iload_n 3, 1) := @dq_o29 cX10_powers 15 (qX10_powers_0 15 29 rfl)
theorem dX10_powers_16 : decode cX10_powers 16 = .ok (.ifCond .lt 18, 3) := @dq_o155 cX10_powers 16 0 18 (qX10_powers_1 0 155 rfl) (qX10_powers_1 1 0 rfl) (qX10_powers_1 2 18 rfl)
theorem dX10_powers_19 : decode cX10_powers 19 = .ok (.iload_n 3, 1) := @dq_o29 cX10_powers 19 (qX10_powers_1 3 29 rfl)
theorem dX10_powers_20 : decode cX10_powers 20 = .ok (.iconst 3, 1) := @dq_o6 cX10_powers 20 (qX10_powers_1 4 6 rfl)
theorem dX10_powers_21 : decode cX10_powers 21 = .ok (.if_icmp .gt 13, 3) := @dq_o163 cX10_powers 21 0 13 (qX10_powers_1 5 163 rfl) (qX10_powers_1 6 0 rfl) (qX10_powers_1 7 13 rfl)
theorem dX10_powers_24 : decode cX10_powers 24 = .ok (.aload_n 0, 1) := @dq_o42 cX10_powers 24 (qX10_powers_1 8 42 rfl)
theorem dX10_powers_25 : decode cX10_powers 25 = .ok (.getfield 53, 3) := @dq_o180 cX10_powers 25 0 53 (qX10_powers_1 9 180 rfl) (qX10_powers_1 10 0 rfl) (qX10_powers_1 11 53 rfl)
theorem dX10_powers_28 : decode cX10_powers 28 = .ok (.getfield 141, 3) := @dq_o180 cX10_powers 28 0 141 (qX10_powers_1 12 180 rfl) (qX10_powers_1 13 0 rfl) (qX10_powers_1 14 141 rfl)
theorem dX10_powers_31 : decode cX10_powers 31 = .ok (.ifCond .ne 7, 3) := @dq_o154 cX10_powers 31 0 7 (qX10_powers_1 15 154 rfl) (qX10_powers_2 0 0 rfl) (qX10_powers_2 1 7 rfl)
theorem dX10_powers_34 : decode cX10_powers 34 = .ok (.ldc2_w 333, 3) := @dq_o20 cX10_powers 34 1 77 (qX10_powers_2 2 20 rfl) (qX10_powers_2 3 1 rfl) (qX10_powers_2 4 77 rfl)
theorem dX10_powers_37 : decode cX10_powers 37 = .ok (.lreturn, 1) := @dq_o173 cX10_powers 37 (qX10_powers_2 5 173 rfl)
theorem dX10_powers_38 : decode cX10_powers 38 = .ok (.aload_n 0, 1) := @dq_o42 cX10_powers 38 (qX10_powers_2 6 42 rfl)
theorem dX10_powers_39 : decode cX10_powers 39 = .ok (.getfield 62, 3) := @dq_o180 cX10_powers 39 0 62 (qX10_powers_2 7 180 rfl) (qX10_powers_2 8 0 rfl) (qX10_powers_2 9 62 rfl)
theorem dX10_powers_42 : decode cX10_powers 42 = .ok (.aload_n 0, 1) := @dq_o42 cX10_powers 42 (qX10_powers_2 10 42 rfl)
theorem dX10_powers_43 : decode cX10_powers 43 = .ok (.getfield 12, 3) := @dq_o180 cX10_powers 43 0 12 (qX10_powers_2 11 180 rfl) (qX10_powers_2 12 0 rfl) (qX10_powers_2 13 12 rfl)
theorem dX10_powers_46 : decode cX10_powers 46 = .ok (.getfield 210, 3) := @dq_o180 cX10_powers 46 0 210 (qX10_powers_2 14 180 rfl) (qX10_powers_2 15 0 rfl) (qX10_powers_3 0 210 rfl)
theorem dX10_powers_49 : decode cX10_powers 49 = .ok (.iload_n 1, 1) := @dq_o27 cX10_powers 49 (qX10_powers_3 1 27 rfl)
theorem dX10_powers_50 : decode cX10_powers 50 = .ok (.aaload, 1) := @dq_o50 cX10_powers 50 (qX10_powers_3 2 50 rfl)
theorem dX10_powers_51 : decode cX10_powers 51 = .ok (.invokevirtual 335, 3) := @dq_o182 cX10_powers 51 1 79 (qX10_powers_3 3 182 rfl) (qX10_powers_3 4 1 rfl) (qX10_powers_3 5 79 rfl)
theorem dX10_powers_54 : decode cX10_powers 54 = .ok (.aload_n 0, 1) := @dq_o42 cX10_powers 54 (qX10_powers_3 6 42 rfl)
theorem dX10_powers_55 : decode cX10_powers 55 = .ok (.getfield 62, 3) := @dq_o180 cX10_powers 55 0 62 (qX10_powers_3 7 180 rfl) (qX10_powers_3 8 0 rfl) (qX10_powers_3 9 62 rfl)
theorem dX10_powers_58 : decode cX10_powers 58 = .ok (.iload_n 2, 1) := @dq_o28 cX10_powers 58 (qX10_powers_3 10 28 rfl)
theorem dX10_powers_59 : decode cX10_powers 59 = .ok (.iconst 1, 1) := @dq_o4 cX10_powers 59 (qX10_powers_3 11 4 rfl)
theorem dX10_powers_60 : decode cX10_powers 60 = .ok (.isub, 1) := @dq_o100 cX10_powers 60 (qX10_powers_3 12 100 rfl)
theorem dX10_powers_61 : decode cX10_powers 61 = .ok (.iload_n 3, 1) := @dq_o29 cX10_powers 61 (qX10_powers_3 13 29 rfl)
theorem dX10_powers_62 : decode cX10_powers 62 = .ok (.invokevirtual 339, 3) := @dq_o182 cX10_powers 62 1 83 (qX10_powers_3 14 182 rfl) (qX10_powers_3 15 1 rfl) (qX10_powers_4 0 83 rfl)
theorem dX10_powers_65 : decode cX10_powers 65 = .ok (.lreturn, 1) := @dq_o173 cX10_powers 65 (qX10_powers_4 1 173 rfl)
abbrev qaX10_associates_0 : List Nat := [42, 27, 28, 182, 0, 214, 153, 0, 10, 29, 184, 0, 204, 154, 0, 5]
abbrev qaX10_associates_1 : List Nat := [2, 172, 42, 180, 0, 62, 42, 180, 0, 98, 42, 180, 0, 12, 180, 0]
abbrev qaX10_associates_2 : List Nat := [210, 27, 50, 42, 180, 0, 12, 180, 0, 210, 28, 50, 182, 0, 217, 42]
abbrev qaX10_associates_3 : List Nat := [180, 0, 62, 42, 180, 0, 98, 42, 180, 0, 98, 42, 180, 0, 12, 180]
abbrev qaX10_associates_4 : List Nat := [0, 210, 29, 50, 182, 0, 217, 42, 180, 0, 62, 42, 180, 0, 102, 42]
abbrev qaX10_associates_5 : List Nat := [180, 0, 12, 180, 0, 210, 28, 50, 42, 180, 0, 12, 180, 0, 210, 29]
abbrev qaX10_associates_6 : List Nat := [50, 182, 0, 217, 42, 180, 0, 62, 42, 180, 0, 102, 42, 180, 0, 12]
abbrev qaX10_associates_7 : List Nat := [180, 0, 210, 27, 50, 42, 180, 0, 102, 182, 0, 217, 42, 180, 0, 98]
abbrev qaX10_associates_8 : List Nat := [42, 180, 0, 102, 184, 1, 87, 184, 0, 144, 172]
def qtX10_associates_9 : List Nat := []
def qtX10_associates_8 : List Nat := qaX10_associates_8 ++ qtX10_associates_9
def qtX10_associates_7 : List Nat := qaX10_associates_7 ++ qtX10_associates_8
def qtX10_associates_6 : List Nat := qaX10_associates_6 ++ qtX10_associates_7
def qtX10_associates_5 : List Nat := qaX10_associates_5 ++ qtX10_associates_6
def qtX10_associates_4 : List Nat := qaX10_associates_4 ++ qtX10_associates_5
def qtX10_associates_3 : List Nat := qaX10_associates_3 ++ qtX10_associates_4
def qtX10_associates_2 : List Nat := qaX10_associates_2 ++ qtX10_associates_3
def qtX10_associates_1 : List Nat := qaX10_associates_1 ++ qtX10_associates_2
def qtX10_associates_0 : List Nat := qaX10_associates_0 ++ qtX10_associates_1
theorem qeX10_associates : cX10_associates.data.toList.map UInt8.toNat = qtX10_associates_0 := by decide +kernel
theorem qsX10_associates_0 : ∀ i, dqNth qtX10_associates_0 (0 + i) = dqNth qtX10_associates_0 i := fun i => by rw [Nat.zero_add]
theorem qsX10_associates_1 : ∀ i, dqNth qtX10_associates_0 (16 + i) = dqNth qtX10_associates_1 i := dq_step qsX10_associates_0 rfl rfl
theorem qsX10_associates_2 : ∀ i, dqNth qtX10_associates_0 (32 + i) = dqNth qtX10_associates_2 i := dq_step qsX10_associates_1 rfl rfl
theorem qsX10_associates_3 : ∀ i, dqNth qtX10_associates_0 (48 + i) = dqNth qtX10_associates_3 i := dq_step qsX10_associates_2 rfl rfl
theorem qsX10_associates_4 : ∀ i, dqNth qtX10_associates_0 (64 + i) = dqNth qtX10_associates_4 i := dq_step qsX10_associates_3 rfl rfl
theorem qsX10_associates_5 : ∀ i, dqNth qtX10_associates_0 (80 + i) = dqNth qtX10_associates_5 i := dq_step qsX10_associates_4 rfl rfl
theorem qsX10_associates_6 : ∀ i, dqNth qtX10_associates_0 (96 + i) = dqNth qtX10_associates_6 i := dq_step qsX10_associates_5 rfl rfl
theorem qsX10_associates_7 : ∀ i, dqNth qtX10_associates_0 (112 + i) = dqNth qtX10_associates_7 i := dq_step qsX10_associates_6 rfl rfl
theorem qsX10_associates_8 : ∀ i, dqNth qtX10_associates_0 (128 + i) = dqNth qtX10_associates_8 i := dq_step qsX10_associates_7 rfl rfl
theorem qX10_associates_0 (i b : Nat) (h : dqNth qaX10_associates_0 i = some b) : DqBy cX10_associates (0 + i) b := dqBy_of qeX10_associates ((qsX10_associates_0 i).trans (dq_in h))
theorem qX10_associates_1 (i b : Nat) (h : dqNth qaX10_associates_1 i = some b) : DqBy cX10_associates (16 + i) b := dqBy_of qeX10_associates ((qsX10_associates_1 i).trans (dq_in h))
theorem qX10_associates_2 (i b : Nat) (h : dqNth qaX10_associates_2 i = some b) : DqBy cX10_associates (32 + i) b := dqBy_of qeX10_associates ((qsX10_associates_2 i).trans (dq_in h))
theorem qX10_associates_3 (i b : Nat) (h : dqNth qaX10_associates_3 i = some b) : DqBy cX10_associates (48 + i) b := dqBy_of qeX10_associates ((qsX10_associates_3 i).trans (dq_in h))
theorem qX10_associates_4 (i b : Nat) (h : dqNth qaX10_associates_4 i = some b) : DqBy cX10_associates (64 + i) b := dqBy_of qeX10_associates ((qsX10_associates_4 i).trans (dq_in h))
theorem qX10_associates_5 (i b : Nat) (h : dqNth qaX10_associates_5 i = some b) : DqBy cX10_associates (80 + i) b := dqBy_of qeX10_associates ((qsX10_associates_5 i).trans (dq_in h))
theorem qX10_associates_6 (i b : Nat) (h : dqNth qaX10_associates_6 i = some b) : DqBy cX10_associates (96 + i) b := dqBy_of qeX10_associates ((qsX10_associates_6 i).trans (dq_in h))
theorem qX10_associates_7 (i b : Nat) (h : dqNth qaX10_associates_7 i = some b) : DqBy cX10_associates (112 + i) b := dqBy_of qeX10_associates ((qsX10_associates_7 i).trans (dq_in h))
theorem qX10_associates_8 (i b : Nat) (h : dqNth qaX10_associates_8 i = some b) : DqBy cX10_associates (128 + i) b := dqBy_of qeX10_associates ((qsX10_associates_8 i).trans (dq_in h))
theorem dX10_associates_0 : decode cX10_associates 0 = .ok (.aload_n 0, 1) := @dq_o42 cX10_associates 0 (qX10_associates_0 0 42 rfl)
theorem dX10_associates_1 : decode cX10_associates 1 = .ok (.iload_n 1, 1) := @dq_o27 cX10_associates 1 (qX10_associates_0 1 27 rfl)
theorem dX10_associates_2 : decode cX10_associates 2 = .ok (.iload_n 2, 1) := @dq_o28 cX10_associates 2 (qX10_associates_0 2 28 rfl)
theorem dX10_associates_3 : decode cX10_associates 3 = .ok (.invokevirtual 214, 3) := @dq_o182 cX10_associates 3 0 214 (qX10_associates_0 3 182 rfl) (qX10_associates_0 4 0 rfl) (qX10_associates_0 5 214 rfl)
theorem dX10_associates_6 : decode cX10_associates 6 = .ok (.ifCond .eq 10, 3) := @dq_o153 cX10_associates 6 0 10 (qX10_associates_0 6 153 rfl) (qX10_associates_0 7 0 rfl) (qX10_associates_0 8 10 rfl)
theorem dX10_associates_9 : decode cX10_associates 9 = .ok (.iload_n 3, 1) := @dq_o29 cX10_associates 9 (qX10_associates_0 9 29 rfl)
theorem dX10_associates_10 : decode cX10_associates 10 = .ok (.invokestatic 204, 3) := @dq_o184 cX10_associates 10 0 204 (qX10_associates_0 10 184 rfl) (qX10_associates_0 11 0 rfl) (qX10_associates_0 12 204 rfl)
theorem dX10_associates_13 : decode cX10_associates 13 = .ok (.ifCond .ne 5, 3) := @dq_o154 cX10_associates 13 0 5 (qX10_associates_0 13 154 rfl) (qX10_associates_0 14 0 rfl) (qX10_associates_0 15 5 rfl)
theorem dX10_associates_16 : decode cX10_associates 16 = .ok (.iconst (-1), 1) := @dq_o2 cX10_associates 16 (qX10_associates_1 0 2 rfl)
theorem dX10_associates_17 : decode cX10_associates 17 = .ok (.ireturn, 1) := @dq_o172 cX10_associates 17 (qX10_associates_1 1 172 rfl)
theorem dX10_associates_18 : decode cX10_associates 18 = .ok (.aload_n 0, 1) := @dq_o42 cX10_associates 18 (qX10_associates_1 2 42 rfl)
theorem dX10_associates_19 : decode cX10_associates 19 = .ok (.getfield 62, 3) := @dq_o180 cX10_associates 19 0 62 (qX10_associates_1 3 180 rfl) (qX10_associates_1 4 0 rfl) (qX10_associates_1 5 62 rfl)
theorem dX10_associates_22 : decode cX10_associates 22 = .ok (.aload_n 0, 1) := @dq_o42 cX10_associates 22 (qX10_associates_1 6 42 rfl)
theorem dX10_associates_23 : decode cX10_associates 23 = .ok (.getfield 98, 3) := @dq_o180 cX10_associates 23 0 98 (qX10_associates_1 7 180 rfl) (qX10_associates_1 8 0 rfl) (qX10_associates_1 9 98 rfl)
theorem dX10_associates_26 : decode cX10_associates 26 = .ok (.aload_n 0, 1) := @dq_o42 cX10_associates 26 (qX10_associates_1 10 42 rfl)
theorem dX10_associates_27 : decode cX10_associates 27 = .ok (.getfield 12, 3) := @dq_o180 cX10_associates 27 0 12 (qX10_associates_1 11 180 rfl) (qX10_associates_1 12 0 rfl) (qX10_associates_1 13 12 rfl)
theorem dX10_associates_30 : decode cX10_associates 30 = .ok (.getfield 210, 3) := @dq_o180 cX10_associates 30 0 210 (qX10_associates_1 14 180 rfl) (qX10_associates_1 15 0 rfl) (qX10_associates_2 0 210 rfl)
theorem dX10_associates_33 : decode cX10_associates 33 = .ok (.iload_n 1, 1) := @dq_o27 cX10_associates 33 (qX10_associates_2 1 27 rfl)
theorem dX10_associates_34 : decode cX10_associates 34 = .ok (.aaload, 1) := @dq_o50 cX10_associates 34 (qX10_associates_2 2 50 rfl)
theorem dX10_associates_35 : decode cX10_associates 35 = .ok (.aload_n 0, 1) := @dq_o42 cX10_associates 35 (qX10_associates_2 3 42 rfl)
theorem dX10_associates_36 : decode cX10_associates 36 = .ok (.getfield 12, 3) := @dq_o180 cX10_associates 36 0 12 (qX10_associates_2 4 180 rfl) (qX10_associates_2 5 0 rfl) (qX10_associates_2 6 12 rfl)
theorem dX10_associates_39 : decode cX10_associates 39 = .ok (.getfield 210, 3) := @dq_o180 cX10_associates 39 0 210 (qX10_associates_2 7 180 rfl) (qX10_associates_2 8 0 rfl) (qX10_associates_2 9 210 rfl)
theorem dX10_associates_42 : decode cX10_associates 42 = .ok (.iload_n 2, 1) := @dq_o28 cX10_associates 42 (qX10_associates_2 10 28 rfl)
theorem dX10_associates_43 : decode cX10_associates 43 = .ok (.aaload, 1) := @dq_o50 cX10_associates 43 (qX10_associates_2 11 50 rfl)
theorem dX10_associates_44 : decode cX10_associates 44 = .ok (.invokevirtual 217, 3) := @dq_o182 cX10_associates 44 0 217 (qX10_associates_2 12 182 rfl) (qX10_associates_2 13 0 rfl) (qX10_associates_2 14 217 rfl)
theorem dX10_associates_47 : decode cX10_associates 47 = .ok (.aload_n 0, 1) := @dq_o42 cX10_associates 47 (qX10_associates_2 15 42 rfl)
theorem dX10_associates_48 : decode cX10_associates 48 = .ok (.getfield 62, 3) := @dq_o180 cX10_associates 48 0 62 (qX10_associates_3 0 180 rfl) (qX10_associates_3 1 0 rfl) (qX10_associates_3 2 62 rfl)
theorem dX10_associates_51 : decode cX10_associates 51 = .ok (.aload_n 0, 1) := @dq_o42 cX10_associates 51 (qX10_associates_3 3 42 rfl)
theorem dX10_associates_52 : decode cX10_associates 52 = .ok (.getfield 98, 3) := @dq_o180 cX10_associates 52 0 98 (qX10_associates_3 4 180 rfl) (qX10_associates_3 5 0 rfl) (qX10_associates_3 6 98 rfl)
theorem dX10_associates_55 : decode cX10_associates 55 = .ok (.aload_n 0, 1) := @dq_o42 cX10_associates 55 (qX10_associates_3 7 42 rfl)
theorem dX10_associates_56 : decode cX10_associates 56 = .ok (.getfield 98, 3) := @dq_o180 cX10_associates 56 0 98 (qX10_associates_3 8 180 rfl) (qX10_associates_3 9 0 rfl) (qX10_associates_3 10 98 rfl)
theorem dX10_associates_59 : decode cX10_associates 59 = .ok (.aload_n 0, 1) := @dq_o42 cX10_associates 59 (qX10_associates_3 11 42 rfl)
theorem dX10_associates_60 : decode cX10_associates 60 = .ok (.getfield 12, 3) := @dq_o180 cX10_associates 60 0 12 (qX10_associates_3 12 180 rfl) (qX10_associates_3 13 0 rfl) (qX10_associates_3 14 12 rfl)
theorem dX10_associates_63 : decode cX10_associates 63 = .ok (.getfield 210, 3) := @dq_o180 cX10_associates 63 0 210 (qX10_associates_3 15 180 rfl) (qX10_associates_4 0 0 rfl) (qX10_associates_4 1 210 rfl)
theorem dX10_associates_66 : decode cX10_associates 66 = .ok (.iload_n 3, 1) := @dq_o29 cX10_associates 66 (qX10_associates_4 2 29 rfl)
theorem dX10_associates_67 : decode cX10_associates 67 = .ok (.aaload, 1) := @dq_o50 cX10_associates 67 (qX10_associates_4 3 50 rfl)
theorem dX10_associates_68 : decode cX10_associates 68 = .ok (.invokevirtual 217, 3) := @dq_o182 cX10_associates 68 0 217 (qX10_associates_4 4 182 rfl) (qX10_associates_4 5 0 rfl) (qX10_associates_4 6 217 rfl)
theorem dX10_associates_71 : decode cX10_associates 71 = .ok (.aload_n 0, 1) := @dq_o42 cX10_associates 71 (qX10_associates_4 7 42 rfl)
theorem dX10_associates_72 : decode cX10_associates 72 = .ok (.getfield 62, 3) := @dq_o180 cX10_associates 72 0 62 (qX10_associates_4 8 180 rfl) (qX10_associates_4 9 0 rfl) (qX10_associates_4 10 62 rfl)
theorem dX10_associates_75 : decode cX10_associates 75 = .ok (.aload_n 0, 1) := @dq_o42 cX10_associates 75 (qX10_associates_4 11 42 rfl)
theorem dX10_associates_76 : decode cX10_associates 76 = .ok (.getfield 102, 3) := @dq_o180 cX10_associates 76 0 102 (qX10_associates_4 12 180 rfl) (qX10_associates_4 13 0 rfl) (qX10_associates_4 14 102 rfl)
theorem dX10_associates_79 : decode cX10_associates 79 = .ok (.aload_n 0, 1) := @dq_o42 cX10_associates 79 (qX10_associates_4 15 42 rfl)
theorem dX10_associates_80 : decode cX10_associates 80 = .ok (.getfield 12, 3) := @dq_o180 cX10_associates 80 0 12 (qX10_associates_5 0 180 rfl) (qX10_associates_5 1 0 rfl) (qX10_associates_5 2 12 rfl)
theorem dX10_associates_83 : decode cX10_associates 83 = .ok (.getfield 210, 3) := @dq_o180 cX10_associates 83 0 210 (qX10_associates_5 3 180 rfl) (qX10_associates_5 4 0 rfl) (qX10_associates_5 5 210 rfl)
theorem dX10_associates_86 : decode cX10_associates 86 = .ok (.iload_n 2, 1) := @dq_o28 cX10_associates 86 (qX10_associates_5 6 28 rfl)
theorem dX10_associates_87 : decode cX10_associates 87 = .ok (.aaload, 1) := @dq_o50 cX10_associates 87 (qX10_associates_5 7 50 rfl)
theorem dX10_associates_88 : decode cX10_associates 88 = .ok (.aload_n 0, 1) := @dq_o42 cX10_associates 88 (qX10_associates_5 8 42 rfl)
theorem dX10_associates_89 : decode cX10_associates 89 = .ok (.getfield 12, 3) := @dq_o180 cX10_associates 89 0 12 (qX10_associates_5 9 180 rfl) (qX10_associates_5 10 0 rfl) (qX10_associates_5 11 12 rfl)
theorem dX10_associates_92 : decode cX10_associates 92 = .ok (.getfield 210, 3) := @dq_o180 cX10_associates 92 0 210 (qX10_associates_5 12 180 rfl) (qX10_associates_5 13 0 rfl) (qX10_associates_5 14 210 rfl)
theorem dX10_associates_95 : decode cX10_associates 95 = .ok (.iload_n 3, 1) := @dq_o29 cX10_associates 95 (qX10_associates_5 15 29 rfl)
theorem dX10_associates_96 : decode cX10_associates 96 = .ok (.aaload, 1) := @dq_o50 cX10_associates 96 (qX10_associates_6 0 50 rfl)
theorem dX10_associates_97 : decode cX10_associates 97 = .ok (.invokevirtual 217, 3) := @dq_o182 cX10_associates 97 0 217 (qX10_associates_6 1 182 rfl) (qX10_associates_6 2 0 rfl) (qX10_associates_6 3 217 rfl)
theorem dX10_associates_100 : decode cX10_associates 100 = .ok (.aload_n 0, 1) := @dq_o42 cX10_associates 100 (qX10_associates_6 4 42 rfl)
theorem dX10_associates_101 : decode cX10_associates 101 = .ok (.getfield 62, 3) := @dq_o180 cX10_associates 101 0 62 (qX10_associates_6 5 180 rfl) (qX10_associates_6 6 0 rfl) (qX10_associates_6 7 62 rfl)
theorem dX10_associates_104 : decode cX10_associates 104 = .ok (.aload_n 0, 1) := @dq_o42 cX10_associates 104 (qX10_associates_6 8 42 rfl)
theorem dX10_associates_105 : decode cX10_associates 105 = .ok (.getfield 102, 3) := @dq_o180 cX10_associates 105 0 102 (qX10_associates_6 9 180 rfl) (qX10_associates_6 10 0 rfl) (qX10_associates_6 11 102 rfl)
theorem dX10_associates_108 : decode cX10_associates 108 = .ok (.aload_n 0, 1) := @dq_o42 cX10_associates 108 (qX10_associates_6 12 42 rfl)
theorem dX10_associates_109 : decode cX10_associates 109 = .ok (.getfield 12, 3) := @dq_o180 cX10_associates 109 0 12 (qX10_associates_6 13 180 rfl) (qX10_associates_6 14 0 rfl) (qX10_associates_6 15 12 rfl)
theorem dX10_associates_112 : decode cX10_associates 112 = .ok (.getfield 210, 3) := @dq_o180 cX10_associates 112 0 210 (qX10_associates_7 0 180 rfl) (qX10_associates_7 1 0 rfl) (qX10_associates_7 2 210 rfl)
theorem dX10_associates_115 : decode cX10_associates 115 = .ok (.iload_n 1, 1) := @dq_o27 cX10_associates 115 (qX10_associates_7 3 27 rfl)
theorem dX10_associates_116 : decode cX10_associates 116 = .ok (.aaload, 1) := @dq_o50 cX10_associates 116 (qX10_associates_7 4 50 rfl)
theorem dX10_associates_117 : decode cX10_associates 117 = .ok (.aload_n 0, 1) := @dq_o42 cX10_associates 117 (qX10_associates_7 5 42 rfl)
theorem dX10_associates_118 : decode cX10_associates 118 = .ok (.getfield 102, 3) := @dq_o180 cX10_associates 118 0 102 (qX10_associates_7 6 180 rfl) (qX10_associates_7 7 0 rfl) (qX10_associates_7 8 102 rfl)
theorem dX10_associates_121 : decode cX10_associates 121 = .ok (.invokevirtual 217, 3) := @dq_o182 cX10_associates 121 0 217 (qX10_associates_7 9 182 rfl) (qX10_associates_7 10 0 rfl) (qX10_associates_7 11 217 rfl)
theorem dX10_associates_124 : decode cX10_associates 124 = .ok (.aload_n 0, 1) := @dq_o42 cX10_associates 124 (qX10_associates_7 12 42 rfl)
theorem dX10_associates_125 : decode cX10_associates 125 = .ok (.getfield 98, 3) := @dq_o180 cX10_associates 125 0 98 (qX10_associates_7 13 180 rfl) (qX10_associates_7 14 0 rfl) (qX10_associates_7 15 98 rfl)
theorem dX10_associates_128 : decode cX10_associates 128 = .ok (.aload_n 0, 1) := @dq_o42 cX10_associates 128 (qX10_associates_8 0 42 rfl)
theorem dX10_associates_129 : decode cX10_associates 129 = .ok (.getfield 102, 3) := @dq_o180 cX10_associates 129 0 102 (qX10_associates_8 1 180 rfl) (qX10_associates_8 2 0 rfl) (qX10_associates_8 3 102 rfl)
theorem dX10_associates_132 : decode cX10_associates 132 = .ok (.invokestatic 343, 3) := @dq_o184 cX10_associates 132 1 87 (qX10_associates_8 4 184 rfl) (qX10_associates_8 5 1 rfl) (qX10_associates_8 6 87 rfl)
theorem dX10_associates_135 : decode cX10_associates 135 = .ok (.invokestatic 144, 3) := @dq_o184 cX10_associates 135 0 144 (qX10_associates_8 7 184 rfl) (qX10_associates_8 8 0 rfl) (qX10_associates_8 9 144 rfl)
theorem dX10_associates_138 : decode cX10_associates 138 = .ok (.ireturn, 1) := @dq_o172 cX10_associates 138 (qX10_associates_8 10 172 rfl)
abbrev qaX10_ball_0 : List Nat := [27, 155, 0, 18, 27, 7, 163, 0, 13, 42, 180, 0, 53, 180, 0, 141]
abbrev qaX10_ball_1 : List Nat := [154, 0, 5, 2, 172, 42, 180, 0, 78, 27, 182, 1, 90, 172]
def qtX10_ball_2 : List Nat := []
def qtX10_ball_1 : List Nat := qaX10_ball_1 ++ qtX10_ball_2
def qtX10_ball_0 : List Nat := qaX10_ball_0 ++ qtX10_ball_1
theorem qeX10_ball : cX10_ball.data.toList.map UInt8.toNat = qtX10_ball_0 := by decide +kernel
theorem qsX10_ball_0 : ∀ i, dqNth qtX10_ball_0 (0 + i) = dqNth qtX10_ball_0 i := fun i => by rw [Nat.zero_add]
theorem qsX10_ball_1 : ∀ i, dqNth qtX10_ball_0 (16 + i) = dqNth qtX10_ball_1 i := dq_step qsX10_ball_0 rfl rfl
theorem qX10_ball_0 (i b : Nat) (h : dqNth qaX10_ball_0 i = some b) : DqBy cX10_ball (0 + i) b := dqBy_of qeX10_ball ((qsX10_ball_0 i).trans (dq_in h))
theorem qX10_ball_1 (i b : Nat) (h : dqNth qaX10_ball_1 i = some b) : DqBy cX10_ball (16 + i) b := dqBy_of qeX10_ball ((qsX10_ball_1 i).trans (dq_in h))
theorem dX10_ball_0 : decode cX10_ball 0 = .ok (.iload_n 1, 1) := @dq_o27 cX10_ball 0 (qX10_ball_0 0 27 rfl)
theorem dX10_ball_1 : decode cX10_ball 1 = .ok (.ifCond .lt 18, 3) := @dq_o155 cX10_ball 1 0 18 (qX10_ball_0 1 155 rfl) (qX10_ball_0 2 0 rfl) (qX10_ball_0 3 18 rfl)
theorem dX10_ball_4 : decode cX10_ball 4 = .ok (.iload_n 1, 1) := @dq_o27 cX10_ball 4 (qX10_ball_0 4 27 rfl)
theorem dX10_ball_5 : decode cX10_ball 5 = .ok (.iconst 4, 1) := @dq_o7 cX10_ball 5 (qX10_ball_0 5 7 rfl)
theorem dX10_ball_6 : decode cX10_ball 6 = .ok (.if_icmp .gt 13, 3) := @dq_o163 cX10_ball 6 0 13 (qX10_ball_0 6 163 rfl) (qX10_ball_0 7 0 rfl) (qX10_ball_0 8 13 rfl)
theorem dX10_ball_9 : decode cX10_ball 9 = .ok (.aload_n 0, 1) := @dq_o42 cX10_ball 9 (qX10_ball_0 9 42 rfl)
theorem dX10_ball_10 : decode cX10_ball 10 = .ok (.getfield 53, 3) := @dq_o180 cX10_ball 10 0 53 (qX10_ball_0 10 180 rfl) (qX10_ball_0 11 0 rfl) (qX10_ball_0 12 53 rfl)
theorem dX10_ball_13 : decode cX10_ball 13 = .ok (.getfield 141, 3) := @dq_o180 cX10_ball 13 0 141 (qX10_ball_0 13 180 rfl) (qX10_ball_0 14 0 rfl) (qX10_ball_0 15 141 rfl)
theorem dX10_ball_16 : decode cX10_ball 16 = .ok (.ifCond .ne 5, 3) := @dq_o154 cX10_ball 16 0 5 (qX10_ball_1 0 154 rfl) (qX10_ball_1 1 0 rfl) (qX10_ball_1 2 5 rfl)
theorem dX10_ball_19 : decode cX10_ball 19 = .ok (.iconst (-1), 1) := @dq_o2 cX10_ball 19 (qX10_ball_1 3 2 rfl)
theorem dX10_ball_20 : decode cX10_ball 20 = .ok (.ireturn, 1) := @dq_o172 cX10_ball 20 (qX10_ball_1 4 172 rfl)
theorem dX10_ball_21 : decode cX10_ball 21 = .ok (.aload_n 0, 1) := @dq_o42 cX10_ball 21 (qX10_ball_1 5 42 rfl)
theorem dX10_ball_22 : decode cX10_ball 22 = .ok (.getfield 78, 3) := @dq_o180 cX10_ball 22 0 78 (qX10_ball_1 6 180 rfl) (qX10_ball_1 7 0 rfl) (qX10_ball_1 8 78 rfl)
theorem dX10_ball_25 : decode cX10_ball 25 = .ok (.iload_n 1, 1) := @dq_o27 cX10_ball 25 (qX10_ball_1 9 27 rfl)
theorem dX10_ball_26 : decode cX10_ball 26 = .ok (.invokevirtual 346, 3) := @dq_o182 cX10_ball 26 1 90 (qX10_ball_1 10 182 rfl) (qX10_ball_1 11 1 rfl) (qX10_ball_1 12 90 rfl)
theorem dX10_ball_29 : decode cX10_ball 29 = .ok (.ireturn, 1) := @dq_o172 cX10_ball 29 (qX10_ball_1 13 172 rfl)
abbrev qaX10_undo_0 : List Nat := [42, 180, 0, 27, 154, 0, 5, 2, 172, 42, 89, 180, 0, 27, 4, 100]
abbrev qaX10_undo_1 : List Nat := [181, 0, 27, 42, 42, 180, 0, 31, 16, 8, 96, 4, 100, 16, 8, 112]
abbrev qaX10_undo_2 : List Nat := [181, 0, 31, 42, 180, 0, 12, 42, 180, 0, 23, 42, 180, 0, 31, 50]
abbrev qaX10_undo_3 : List Nat := [182, 1, 94, 42, 180, 0, 53, 42, 180, 0, 12, 180, 0, 105, 182, 0]
abbrev qaX10_undo_4 : List Nat := [115, 42, 180, 0, 27, 172]
def qtX10_undo_5 : List Nat := []
def qtX10_undo_4 : List Nat := qaX10_undo_4 ++ qtX10_undo_5
def qtX10_undo_3 : List Nat := qaX10_undo_3 ++ qtX10_undo_4
def qtX10_undo_2 : List Nat := qaX10_undo_2 ++ qtX10_undo_3
def qtX10_undo_1 : List Nat := qaX10_undo_1 ++ qtX10_undo_2
def qtX10_undo_0 : List Nat := qaX10_undo_0 ++ qtX10_undo_1
theorem qeX10_undo : cX10_undo.data.toList.map UInt8.toNat = qtX10_undo_0 := by decide +kernel
theorem qsX10_undo_0 : ∀ i, dqNth qtX10_undo_0 (0 + i) = dqNth qtX10_undo_0 i := fun i => by rw [Nat.zero_add]
theorem qsX10_undo_1 : ∀ i, dqNth qtX10_undo_0 (16 + i) = dqNth qtX10_undo_1 i := dq_step qsX10_undo_0 rfl rfl
theorem qsX10_undo_2 : ∀ i, dqNth qtX10_undo_0 (32 + i) = dqNth qtX10_undo_2 i := dq_step qsX10_undo_1 rfl rfl
theorem qsX10_undo_3 : ∀ i, dqNth qtX10_undo_0 (48 + i) = dqNth qtX10_undo_3 i := dq_step qsX10_undo_2 rfl rfl
theorem qsX10_undo_4 : ∀ i, dqNth qtX10_undo_0 (64 + i) = dqNth qtX10_undo_4 i := dq_step qsX10_undo_3 rfl rfl
theorem qX10_undo_0 (i b : Nat) (h : dqNth qaX10_undo_0 i = some b) : DqBy cX10_undo (0 + i) b := dqBy_of qeX10_undo ((qsX10_undo_0 i).trans (dq_in h))
theorem qX10_undo_1 (i b : Nat) (h : dqNth qaX10_undo_1 i = some b) : DqBy cX10_undo (16 + i) b := dqBy_of qeX10_undo ((qsX10_undo_1 i).trans (dq_in h))
theorem qX10_undo_2 (i b : Nat) (h : dqNth qaX10_undo_2 i = some b) : DqBy cX10_undo (32 + i) b := dqBy_of qeX10_undo ((qsX10_undo_2 i).trans (dq_in h))
theorem qX10_undo_3 (i b : Nat) (h : dqNth qaX10_undo_3 i = some b) : DqBy cX10_undo (48 + i) b := dqBy_of qeX10_undo ((qsX10_undo_3 i).trans (dq_in h))
theorem qX10_undo_4 (i b : Nat) (h : dqNth qaX10_undo_4 i = some b) : DqBy cX10_undo (64 + i) b := dqBy_of qeX10_undo ((qsX10_undo_4 i).trans (dq_in h))
theorem dX10_undo_0 : decode cX10_undo 0 = .ok (.aload_n 0, 1) := @dq_o42 cX10_undo 0 (qX10_undo_0 0 42 rfl)
theorem dX10_undo_1 : decode cX10_undo 1 = .ok (.getfield 27, 3) := @dq_o180 cX10_undo 1 0 27 (qX10_undo_0 1 180 rfl) (qX10_undo_0 2 0 rfl) (qX10_undo_0 3 27 rfl)
theorem dX10_undo_4 : decode cX10_undo 4 = .ok (.ifCond .ne 5, 3) := @dq_o154 cX10_undo 4 0 5 (qX10_undo_0 4 154 rfl) (qX10_undo_0 5 0 rfl) (qX10_undo_0 6 5 rfl)
theorem dX10_undo_7 : decode cX10_undo 7 = .ok (.iconst (-1), 1) := @dq_o2 cX10_undo 7 (qX10_undo_0 7 2 rfl)
theorem dX10_undo_8 : decode cX10_undo 8 = .ok (.ireturn, 1) := @dq_o172 cX10_undo 8 (qX10_undo_0 8 172 rfl)
theorem dX10_undo_9 : decode cX10_undo 9 = .ok (.aload_n 0, 1) := @dq_o42 cX10_undo 9 (qX10_undo_0 9 42 rfl)
theorem dX10_undo_10 : decode cX10_undo 10 = .ok (.dup, 1) := @dq_o89 cX10_undo 10 (qX10_undo_0 10 89 rfl)
theorem dX10_undo_11 : decode cX10_undo 11 = .ok (.getfield 27, 3) := @dq_o180 cX10_undo 11 0 27 (qX10_undo_0 11 180 rfl) (qX10_undo_0 12 0 rfl) (qX10_undo_0 13 27 rfl)
theorem dX10_undo_14 : decode cX10_undo 14 = .ok (.iconst 1, 1) := @dq_o4 cX10_undo 14 (qX10_undo_0 14 4 rfl)
theorem dX10_undo_15 : decode cX10_undo 15 = .ok (.isub, 1) := @dq_o100 cX10_undo 15 (qX10_undo_0 15 100 rfl)
theorem dX10_undo_16 : decode cX10_undo 16 = .ok (.putfield 27, 3) := @dq_o181 cX10_undo 16 0 27 (qX10_undo_1 0 181 rfl) (qX10_undo_1 1 0 rfl) (qX10_undo_1 2 27 rfl)
theorem dX10_undo_19 : decode cX10_undo 19 = .ok (.aload_n 0, 1) := @dq_o42 cX10_undo 19 (qX10_undo_1 3 42 rfl)
theorem dX10_undo_20 : decode cX10_undo 20 = .ok (.aload_n 0, 1) := @dq_o42 cX10_undo 20 (qX10_undo_1 4 42 rfl)
theorem dX10_undo_21 : decode cX10_undo 21 = .ok (.getfield 31, 3) := @dq_o180 cX10_undo 21 0 31 (qX10_undo_1 5 180 rfl) (qX10_undo_1 6 0 rfl) (qX10_undo_1 7 31 rfl)
theorem dX10_undo_24 : decode cX10_undo 24 = .ok (.bipush 8, 2) := @dq_o16 cX10_undo 24 8 (qX10_undo_1 8 16 rfl) (qX10_undo_1 9 8 rfl)
theorem dX10_undo_26 : decode cX10_undo 26 = .ok (.iadd, 1) := @dq_o96 cX10_undo 26 (qX10_undo_1 10 96 rfl)
theorem dX10_undo_27 : decode cX10_undo 27 = .ok (.iconst 1, 1) := @dq_o4 cX10_undo 27 (qX10_undo_1 11 4 rfl)
theorem dX10_undo_28 : decode cX10_undo 28 = .ok (.isub, 1) := @dq_o100 cX10_undo 28 (qX10_undo_1 12 100 rfl)
theorem dX10_undo_29 : decode cX10_undo 29 = .ok (.bipush 8, 2) := @dq_o16 cX10_undo 29 8 (qX10_undo_1 13 16 rfl) (qX10_undo_1 14 8 rfl)
theorem dX10_undo_31 : decode cX10_undo 31 = .ok (.irem, 1) := @dq_o112 cX10_undo 31 (qX10_undo_1 15 112 rfl)
theorem dX10_undo_32 : decode cX10_undo 32 = .ok (.putfield 31, 3) := @dq_o181 cX10_undo 32 0 31 (qX10_undo_2 0 181 rfl) (qX10_undo_2 1 0 rfl) (qX10_undo_2 2 31 rfl)
theorem dX10_undo_35 : decode cX10_undo 35 = .ok (.aload_n 0, 1) := @dq_o42 cX10_undo 35 (qX10_undo_2 3 42 rfl)
theorem dX10_undo_36 : decode cX10_undo 36 = .ok (.getfield 12, 3) := @dq_o180 cX10_undo 36 0 12 (qX10_undo_2 4 180 rfl) (qX10_undo_2 5 0 rfl) (qX10_undo_2 6 12 rfl)
theorem dX10_undo_39 : decode cX10_undo 39 = .ok (.aload_n 0, 1) := @dq_o42 cX10_undo 39 (qX10_undo_2 7 42 rfl)
theorem dX10_undo_40 : decode cX10_undo 40 = .ok (.getfield 23, 3) := @dq_o180 cX10_undo 40 0 23 (qX10_undo_2 8 180 rfl) (qX10_undo_2 9 0 rfl) (qX10_undo_2 10 23 rfl)
theorem dX10_undo_43 : decode cX10_undo 43 = .ok (.aload_n 0, 1) := @dq_o42 cX10_undo 43 (qX10_undo_2 11 42 rfl)
theorem dX10_undo_44 : decode cX10_undo 44 = .ok (.getfield 31, 3) := @dq_o180 cX10_undo 44 0 31 (qX10_undo_2 12 180 rfl) (qX10_undo_2 13 0 rfl) (qX10_undo_2 14 31 rfl)
theorem dX10_undo_47 : decode cX10_undo 47 = .ok (.aaload, 1) := @dq_o50 cX10_undo 47 (qX10_undo_2 15 50 rfl)
theorem dX10_undo_48 : decode cX10_undo 48 = .ok (.invokevirtual 350, 3) := @dq_o182 cX10_undo 48 1 94 (qX10_undo_3 0 182 rfl) (qX10_undo_3 1 1 rfl) (qX10_undo_3 2 94 rfl)
theorem dX10_undo_51 : decode cX10_undo 51 = .ok (.aload_n 0, 1) := @dq_o42 cX10_undo 51 (qX10_undo_3 3 42 rfl)
theorem dX10_undo_52 : decode cX10_undo 52 = .ok (.getfield 53, 3) := @dq_o180 cX10_undo 52 0 53 (qX10_undo_3 4 180 rfl) (qX10_undo_3 5 0 rfl) (qX10_undo_3 6 53 rfl)
theorem dX10_undo_55 : decode cX10_undo 55 = .ok (.aload_n 0, 1) := @dq_o42 cX10_undo 55 (qX10_undo_3 7 42 rfl)
theorem dX10_undo_56 : decode cX10_undo 56 = .ok (.getfield 12, 3) := @dq_o180 cX10_undo 56 0 12 (qX10_undo_3 8 180 rfl) (qX10_undo_3 9 0 rfl) (qX10_undo_3 10 12 rfl)
theorem dX10_undo_59 : decode cX10_undo 59 = .ok (.getfield 105, 3) := @dq_o180 cX10_undo 59 0 105 (qX10_undo_3 11 180 rfl) (qX10_undo_3 12 0 rfl) (qX10_undo_3 13 105 rfl)
theorem dX10_undo_62 : decode cX10_undo 62 = .ok (.invokevirtual 115, 3) := @dq_o182 cX10_undo 62 0 115 (qX10_undo_3 14 182 rfl) (qX10_undo_3 15 0 rfl) (qX10_undo_4 0 115 rfl)
theorem dX10_undo_65 : decode cX10_undo 65 = .ok (.aload_n 0, 1) := @dq_o42 cX10_undo 65 (qX10_undo_4 1 42 rfl)
theorem dX10_undo_66 : decode cX10_undo 66 = .ok (.getfield 27, 3) := @dq_o180 cX10_undo 66 0 27 (qX10_undo_4 2 180 rfl) (qX10_undo_4 3 0 rfl) (qX10_undo_4 4 27 rfl)
theorem dX10_undo_69 : decode cX10_undo 69 = .ok (.ireturn, 1) := @dq_o172 cX10_undo 69 (qX10_undo_4 5 172 rfl)
abbrev qaX10_image_0 : List Nat := [27, 153, 0, 21, 42, 180, 0, 16, 42, 180, 0, 12, 182, 1, 98, 42]
abbrev qaX10_image_1 : List Nat := [4, 181, 0, 19, 4, 172, 42, 180, 0, 19, 154, 0, 5, 3, 172, 42]
abbrev qaX10_image_2 : List Nat := [180, 0, 12, 42, 180, 0, 16, 182, 1, 98, 42, 3, 181, 0, 27, 42]
abbrev qaX10_image_3 : List Nat := [180, 0, 53, 42, 180, 0, 12, 180, 0, 105, 182, 0, 115, 4, 172]
def qtX10_image_4 : List Nat := []
def qtX10_image_3 : List Nat := qaX10_image_3 ++ qtX10_image_4
def qtX10_image_2 : List Nat := qaX10_image_2 ++ qtX10_image_3
def qtX10_image_1 : List Nat := qaX10_image_1 ++ qtX10_image_2
def qtX10_image_0 : List Nat := qaX10_image_0 ++ qtX10_image_1
theorem qeX10_image : cX10_image.data.toList.map UInt8.toNat = qtX10_image_0 := by decide +kernel
theorem qsX10_image_0 : ∀ i, dqNth qtX10_image_0 (0 + i) = dqNth qtX10_image_0 i := fun i => by rw [Nat.zero_add]
theorem qsX10_image_1 : ∀ i, dqNth qtX10_image_0 (16 + i) = dqNth qtX10_image_1 i := dq_step qsX10_image_0 rfl rfl
theorem qsX10_image_2 : ∀ i, dqNth qtX10_image_0 (32 + i) = dqNth qtX10_image_2 i := dq_step qsX10_image_1 rfl rfl
theorem qsX10_image_3 : ∀ i, dqNth qtX10_image_0 (48 + i) = dqNth qtX10_image_3 i := dq_step qsX10_image_2 rfl rfl
theorem qX10_image_0 (i b : Nat) (h : dqNth qaX10_image_0 i = some b) : DqBy cX10_image (0 + i) b := dqBy_of qeX10_image ((qsX10_image_0 i).trans (dq_in h))
theorem qX10_image_1 (i b : Nat) (h : dqNth qaX10_image_1 i = some b) : DqBy cX10_image (16 + i) b := dqBy_of qeX10_image ((qsX10_image_1 i).trans (dq_in h))
theorem qX10_image_2 (i b : Nat) (h : dqNth qaX10_image_2 i = some b) : DqBy cX10_image (32 + i) b := dqBy_of qeX10_image ((qsX10_image_2 i).trans (dq_in h))
theorem qX10_image_3 (i b : Nat) (h : dqNth qaX10_image_3 i = some b) : DqBy cX10_image (48 + i) b := dqBy_of qeX10_image ((qsX10_image_3 i).trans (dq_in h))
theorem dX10_image_0 : decode cX10_image 0 = .ok (.iload_n 1, 1) := @dq_o27 cX10_image 0 (qX10_image_0 0 27 rfl)
theorem dX10_image_1 : decode cX10_image 1 = .ok (.ifCond .eq 21, 3) := @dq_o153 cX10_image 1 0 21 (qX10_image_0 1 153 rfl) (qX10_image_0 2 0 rfl) (qX10_image_0 3 21 rfl)
theorem dX10_image_4 : decode cX10_image 4 = .ok (.aload_n 0, 1) := @dq_o42 cX10_image 4 (qX10_image_0 4 42 rfl)
theorem dX10_image_5 : decode cX10_image 5 = .ok (.getfield 16, 3) := @dq_o180 cX10_image 5 0 16 (qX10_image_0 5 180 rfl) (qX10_image_0 6 0 rfl) (qX10_image_0 7 16 rfl)
theorem dX10_image_8 : decode cX10_image 8 = .ok (.aload_n 0, 1) := @dq_o42 cX10_image 8 (qX10_image_0 8 42 rfl)
theorem dX10_image_9 : decode cX10_image 9 = .ok (.getfield 12, 3) := @dq_o180 cX10_image 9 0 12 (qX10_image_0 9 180 rfl) (qX10_image_0 10 0 rfl) (qX10_image_0 11 12 rfl)
theorem dX10_image_12 : decode cX10_image 12 = .ok (.invokevirtual 354, 3) := @dq_o182 cX10_image 12 1 98 (qX10_image_0 12 182 rfl) (qX10_image_0 13 1 rfl) (qX10_image_0 14 98 rfl)
theorem dX10_image_15 : decode cX10_image 15 = .ok (.aload_n 0, 1) := @dq_o42 cX10_image 15 (qX10_image_0 15 42 rfl)
theorem dX10_image_16 : decode cX10_image 16 = .ok (.iconst 1, 1) := @dq_o4 cX10_image 16 (qX10_image_1 0 4 rfl)
theorem dX10_image_17 : decode cX10_image 17 = .ok (.putfield 19, 3) := @dq_o181 cX10_image 17 0 19 (qX10_image_1 1 181 rfl) (qX10_image_1 2 0 rfl) (qX10_image_1 3 19 rfl)
theorem dX10_image_20 : decode cX10_image 20 = .ok (.iconst 1, 1) := @dq_o4 cX10_image 20 (qX10_image_1 4 4 rfl)
theorem dX10_image_21 : decode cX10_image 21 = .ok (.ireturn, 1) := @dq_o172 cX10_image 21 (qX10_image_1 5 172 rfl)
theorem dX10_image_22 : decode cX10_image 22 = .ok (.aload_n 0, 1) := @dq_o42 cX10_image 22 (qX10_image_1 6 42 rfl)
theorem dX10_image_23 : decode cX10_image 23 = .ok (.getfield 19, 3) := @dq_o180 cX10_image 23 0 19 (qX10_image_1 7 180 rfl) (qX10_image_1 8 0 rfl) (qX10_image_1 9 19 rfl)
theorem dX10_image_26 : decode cX10_image 26 = .ok (.ifCond .ne 5, 3) := @dq_o154 cX10_image 26 0 5 (qX10_image_1 10 154 rfl) (qX10_image_1 11 0 rfl) (qX10_image_1 12 5 rfl)
theorem dX10_image_29 : decode cX10_image 29 = .ok (.iconst 0, 1) := @dq_o3 cX10_image 29 (qX10_image_1 13 3 rfl)
theorem dX10_image_30 : decode cX10_image 30 = .ok (.ireturn, 1) := @dq_o172 cX10_image 30 (qX10_image_1 14 172 rfl)
theorem dX10_image_31 : decode cX10_image 31 = .ok (.aload_n 0, 1) := @dq_o42 cX10_image 31 (qX10_image_1 15 42 rfl)
theorem dX10_image_32 : decode cX10_image 32 = .ok (.getfield 12, 3) := @dq_o180 cX10_image 32 0 12 (qX10_image_2 0 180 rfl) (qX10_image_2 1 0 rfl) (qX10_image_2 2 12 rfl)
theorem dX10_image_35 : decode cX10_image 35 = .ok (.aload_n 0, 1) := @dq_o42 cX10_image 35 (qX10_image_2 3 42 rfl)
theorem dX10_image_36 : decode cX10_image 36 = .ok (.getfield 16, 3) := @dq_o180 cX10_image 36 0 16 (qX10_image_2 4 180 rfl) (qX10_image_2 5 0 rfl) (qX10_image_2 6 16 rfl)
theorem dX10_image_39 : decode cX10_image 39 = .ok (.invokevirtual 354, 3) := @dq_o182 cX10_image 39 1 98 (qX10_image_2 7 182 rfl) (qX10_image_2 8 1 rfl) (qX10_image_2 9 98 rfl)
theorem dX10_image_42 : decode cX10_image 42 = .ok (.aload_n 0, 1) := @dq_o42 cX10_image 42 (qX10_image_2 10 42 rfl)
theorem dX10_image_43 : decode cX10_image 43 = .ok (.iconst 0, 1) := @dq_o3 cX10_image 43 (qX10_image_2 11 3 rfl)
theorem dX10_image_44 : decode cX10_image 44 = .ok (.putfield 27, 3) := @dq_o181 cX10_image 44 0 27 (qX10_image_2 12 181 rfl) (qX10_image_2 13 0 rfl) (qX10_image_2 14 27 rfl)
theorem dX10_image_47 : decode cX10_image 47 = .ok (.aload_n 0, 1) := @dq_o42 cX10_image 47 (qX10_image_2 15 42 rfl)
theorem dX10_image_48 : decode cX10_image 48 = .ok (.getfield 53, 3) := @dq_o180 cX10_image 48 0 53 (qX10_image_3 0 180 rfl) (qX10_image_3 1 0 rfl) (qX10_image_3 2 53 rfl)
theorem dX10_image_51 : decode cX10_image 51 = .ok (.aload_n 0, 1) := @dq_o42 cX10_image 51 (qX10_image_3 3 42 rfl)
theorem dX10_image_52 : decode cX10_image 52 = .ok (.getfield 12, 3) := @dq_o180 cX10_image 52 0 12 (qX10_image_3 4 180 rfl) (qX10_image_3 5 0 rfl) (qX10_image_3 6 12 rfl)
theorem dX10_image_55 : decode cX10_image 55 = .ok (.getfield 105, 3) := @dq_o180 cX10_image 55 0 105 (qX10_image_3 7 180 rfl) (qX10_image_3 8 0 rfl) (qX10_image_3 9 105 rfl)
theorem dX10_image_58 : decode cX10_image 58 = .ok (.invokevirtual 115, 3) := @dq_o182 cX10_image 58 0 115 (qX10_image_3 10 182 rfl) (qX10_image_3 11 0 rfl) (qX10_image_3 12 115 rfl)
theorem dX10_image_61 : decode cX10_image 61 = .ok (.iconst 1, 1) := @dq_o4 cX10_image 61 (qX10_image_3 13 4 rfl)
theorem dX10_image_62 : decode cX10_image 62 = .ok (.ireturn, 1) := @dq_o172 cX10_image 62 (qX10_image_3 14 172 rfl)
abbrev qaX10_look_0 : List Nat := [27, 170, 0, 0, 0, 0, 0, 151, 0, 0, 0, 0, 0, 0, 0, 9]
abbrev qaX10_look_1 : List Nat := [0, 0, 0, 55, 0, 0, 0, 66, 0, 0, 0, 77, 0, 0, 0, 88]
abbrev qaX10_look_2 : List Nat := [0, 0, 0, 99, 0, 0, 0, 107, 0, 0, 0, 112, 0, 0, 0, 117]
abbrev qaX10_look_3 : List Nat := [0, 0, 0, 122, 0, 0, 0, 132, 42, 180, 0, 12, 180, 0, 105, 180]
abbrev qaX10_look_4 : List Nat := [0, 178, 172, 42, 180, 0, 12, 180, 0, 105, 182, 1, 101, 172, 42, 180]
abbrev qaX10_look_5 : List Nat := [0, 53, 180, 0, 141, 184, 0, 144, 172, 42, 180, 0, 12, 180, 0, 105]
abbrev qaX10_look_6 : List Nat := [182, 1, 104, 172, 42, 180, 0, 53, 182, 1, 107, 172, 42, 182, 1, 110]
abbrev qaX10_look_7 : List Nat := [172, 42, 180, 0, 27, 172, 42, 180, 0, 38, 172, 42, 180, 0, 12, 180]
abbrev qaX10_look_8 : List Nat := [1, 11, 3, 46, 172, 42, 180, 0, 53, 180, 0, 141, 153, 0, 10, 42]
abbrev qaX10_look_9 : List Nat := [182, 1, 113, 167, 0, 4, 3, 172, 2, 172]
def qtX10_look_10 : List Nat := []
def qtX10_look_9 : List Nat := qaX10_look_9 ++ qtX10_look_10
def qtX10_look_8 : List Nat := qaX10_look_8 ++ qtX10_look_9
def qtX10_look_7 : List Nat := qaX10_look_7 ++ qtX10_look_8
def qtX10_look_6 : List Nat := qaX10_look_6 ++ qtX10_look_7
def qtX10_look_5 : List Nat := qaX10_look_5 ++ qtX10_look_6
def qtX10_look_4 : List Nat := qaX10_look_4 ++ qtX10_look_5
def qtX10_look_3 : List Nat := qaX10_look_3 ++ qtX10_look_4
def qtX10_look_2 : List Nat := qaX10_look_2 ++ qtX10_look_3
def qtX10_look_1 : List Nat := qaX10_look_1 ++ qtX10_look_2
def qtX10_look_0 : List Nat := qaX10_look_0 ++ qtX10_look_1
theorem qeX10_look : cX10_look.data.toList.map UInt8.toNat = qtX10_look_0 := by decide +kernel
theorem qsX10_look_0 : ∀ i, dqNth qtX10_look_0 (0 + i) = dqNth qtX10_look_0 i := fun i => by rw [Nat.zero_add]
theorem qsX10_look_1 : ∀ i, dqNth qtX10_look_0 (16 + i) = dqNth qtX10_look_1 i := dq_step qsX10_look_0 rfl rfl
theorem qsX10_look_2 : ∀ i, dqNth qtX10_look_0 (32 + i) = dqNth qtX10_look_2 i := dq_step qsX10_look_1 rfl rfl
theorem qsX10_look_3 : ∀ i, dqNth qtX10_look_0 (48 + i) = dqNth qtX10_look_3 i := dq_step qsX10_look_2 rfl rfl
theorem qsX10_look_4 : ∀ i, dqNth qtX10_look_0 (64 + i) = dqNth qtX10_look_4 i := dq_step qsX10_look_3 rfl rfl
theorem qsX10_look_5 : ∀ i, dqNth qtX10_look_0 (80 + i) = dqNth qtX10_look_5 i := dq_step qsX10_look_4 rfl rfl
theorem qsX10_look_6 : ∀ i, dqNth qtX10_look_0 (96 + i) = dqNth qtX10_look_6 i := dq_step qsX10_look_5 rfl rfl
theorem qsX10_look_7 : ∀ i, dqNth qtX10_look_0 (112 + i) = dqNth qtX10_look_7 i := dq_step qsX10_look_6 rfl rfl
theorem qsX10_look_8 : ∀ i, dqNth qtX10_look_0 (128 + i) = dqNth qtX10_look_8 i := dq_step qsX10_look_7 rfl rfl
theorem qsX10_look_9 : ∀ i, dqNth qtX10_look_0 (144 + i) = dqNth qtX10_look_9 i := dq_step qsX10_look_8 rfl rfl
theorem qX10_look_0 (i b : Nat) (h : dqNth qaX10_look_0 i = some b) : DqBy cX10_look (0 + i) b := dqBy_of qeX10_look ((qsX10_look_0 i).trans (dq_in h))
theorem qX10_look_1 (i b : Nat) (h : dqNth qaX10_look_1 i = some b) : DqBy cX10_look (16 + i) b := dqBy_of qeX10_look ((qsX10_look_1 i).trans (dq_in h))
theorem qX10_look_2 (i b : Nat) (h : dqNth qaX10_look_2 i = some b) : DqBy cX10_look (32 + i) b := dqBy_of qeX10_look ((qsX10_look_2 i).trans (dq_in h))
theorem qX10_look_3 (i b : Nat) (h : dqNth qaX10_look_3 i = some b) : DqBy cX10_look (48 + i) b := dqBy_of qeX10_look ((qsX10_look_3 i).trans (dq_in h))
theorem qX10_look_4 (i b : Nat) (h : dqNth qaX10_look_4 i = some b) : DqBy cX10_look (64 + i) b := dqBy_of qeX10_look ((qsX10_look_4 i).trans (dq_in h))
theorem qX10_look_5 (i b : Nat) (h : dqNth qaX10_look_5 i = some b) : DqBy cX10_look (80 + i) b := dqBy_of qeX10_look ((qsX10_look_5 i).trans (dq_in h))
theorem qX10_look_6 (i b : Nat) (h : dqNth qaX10_look_6 i = some b) : DqBy cX10_look (96 + i) b := dqBy_of qeX10_look ((qsX10_look_6 i).trans (dq_in h))
theorem qX10_look_7 (i b : Nat) (h : dqNth qaX10_look_7 i = some b) : DqBy cX10_look (112 + i) b := dqBy_of qeX10_look ((qsX10_look_7 i).trans (dq_in h))
theorem qX10_look_8 (i b : Nat) (h : dqNth qaX10_look_8 i = some b) : DqBy cX10_look (128 + i) b := dqBy_of qeX10_look ((qsX10_look_8 i).trans (dq_in h))
theorem qX10_look_9 (i b : Nat) (h : dqNth qaX10_look_9 i = some b) : DqBy cX10_look (144 + i) b := dqBy_of qeX10_look ((qsX10_look_9 i).trans (dq_in h))
theorem dX10_look_0 : decode cX10_look 0 = .ok (.iload_n 1, 1) := @dq_o27 cX10_look 0 (qX10_look_0 0 27 rfl)
theorem dX10_look_1 : decode cX10_look 1 = .ok (.tableswitch 151 0 9 #[55, 66, 77, 88, 99, 107, 112, 117, 122, 132], 55) := by decide +kernel
theorem dX10_look_56 : decode cX10_look 56 = .ok (.aload_n 0, 1) := @dq_o42 cX10_look 56 (qX10_look_3 8 42 rfl)
theorem dX10_look_57 : decode cX10_look 57 = .ok (.getfield 12, 3) := @dq_o180 cX10_look 57 0 12 (qX10_look_3 9 180 rfl) (qX10_look_3 10 0 rfl) (qX10_look_3 11 12 rfl)
theorem dX10_look_60 : decode cX10_look 60 = .ok (.getfield 105, 3) := @dq_o180 cX10_look 60 0 105 (qX10_look_3 12 180 rfl) (qX10_look_3 13 0 rfl) (qX10_look_3 14 105 rfl)
theorem dX10_look_63 : decode cX10_look 63 = .ok (.getfield 178, 3) := @dq_o180 cX10_look 63 0 178 (qX10_look_3 15 180 rfl) (qX10_look_4 0 0 rfl) (qX10_look_4 1 178 rfl)
theorem dX10_look_66 : decode cX10_look 66 = .ok (.ireturn, 1) := @dq_o172 cX10_look 66 (qX10_look_4 2 172 rfl)
theorem dX10_look_67 : decode cX10_look 67 = .ok (.aload_n 0, 1) := @dq_o42 cX10_look 67 (qX10_look_4 3 42 rfl)
theorem dX10_look_68 : decode cX10_look 68 = .ok (.getfield 12, 3) := @dq_o180 cX10_look 68 0 12 (qX10_look_4 4 180 rfl) (qX10_look_4 5 0 rfl) (qX10_look_4 6 12 rfl)
theorem dX10_look_71 : decode cX10_look 71 = .ok (.getfield 105, 3) := @dq_o180 cX10_look 71 0 105 (qX10_look_4 7 180 rfl) (qX10_look_4 8 0 rfl) (qX10_look_4 9 105 rfl)
theorem dX10_look_74 : decode cX10_look 74 = .ok (.invokevirtual 357, 3) := @dq_o182 cX10_look 74 1 101 (qX10_look_4 10 182 rfl) (qX10_look_4 11 1 rfl) (qX10_look_4 12 101 rfl)
theorem dX10_look_77 : decode cX10_look 77 = .ok (.ireturn, 1) := @dq_o172 cX10_look 77 (qX10_look_4 13 172 rfl)
theorem dX10_look_78 : decode cX10_look 78 = .ok (.aload_n 0, 1) := @dq_o42 cX10_look 78 (qX10_look_4 14 42 rfl)
theorem dX10_look_79 : decode cX10_look 79 = .ok (.getfield 53, 3) := @dq_o180 cX10_look 79 0 53 (qX10_look_4 15 180 rfl) (qX10_look_5 0 0 rfl) (qX10_look_5 1 53 rfl)
theorem dX10_look_82 : decode cX10_look 82 = .ok (.getfield 141, 3) := @dq_o180 cX10_look 82 0 141 (qX10_look_5 2 180 rfl) (qX10_look_5 3 0 rfl) (qX10_look_5 4 141 rfl)
theorem dX10_look_85 : decode cX10_look 85 = .ok (.invokestatic 144, 3) := @dq_o184 cX10_look 85 0 144 (qX10_look_5 5 184 rfl) (qX10_look_5 6 0 rfl) (qX10_look_5 7 144 rfl)
theorem dX10_look_88 : decode cX10_look 88 = .ok (.ireturn, 1) := @dq_o172 cX10_look 88 (qX10_look_5 8 172 rfl)
theorem dX10_look_89 : decode cX10_look 89 = .ok (.aload_n 0, 1) := @dq_o42 cX10_look 89 (qX10_look_5 9 42 rfl)
theorem dX10_look_90 : decode cX10_look 90 = .ok (.getfield 12, 3) := @dq_o180 cX10_look 90 0 12 (qX10_look_5 10 180 rfl) (qX10_look_5 11 0 rfl) (qX10_look_5 12 12 rfl)
theorem dX10_look_93 : decode cX10_look 93 = .ok (.getfield 105, 3) := @dq_o180 cX10_look 93 0 105 (qX10_look_5 13 180 rfl) (qX10_look_5 14 0 rfl) (qX10_look_5 15 105 rfl)
theorem dX10_look_96 : decode cX10_look 96 = .ok (.invokevirtual 360, 3) := @dq_o182 cX10_look 96 1 104 (qX10_look_6 0 182 rfl) (qX10_look_6 1 1 rfl) (qX10_look_6 2 104 rfl)
theorem dX10_look_99 : decode cX10_look 99 = .ok (.ireturn, 1) := @dq_o172 cX10_look 99 (qX10_look_6 3 172 rfl)
theorem dX10_look_100 : decode cX10_look 100 = .ok (.aload_n 0, 1) := @dq_o42 cX10_look 100 (qX10_look_6 4 42 rfl)
theorem dX10_look_101 : decode cX10_look 101 = .ok (.getfield 53, 3) := @dq_o180 cX10_look 101 0 53 (qX10_look_6 5 180 rfl) (qX10_look_6 6 0 rfl) (qX10_look_6 7 53 rfl)
theorem dX10_look_104 : decode cX10_look 104 = .ok (.invokevirtual 363, 3) := @dq_o182 cX10_look 104 1 107 (qX10_look_6 8 182 rfl) (qX10_look_6 9 1 rfl) (qX10_look_6 10 107 rfl)
theorem dX10_look_107 : decode cX10_look 107 = .ok (.ireturn, 1) := @dq_o172 cX10_look 107 (qX10_look_6 11 172 rfl)
theorem dX10_look_108 : decode cX10_look 108 = .ok (.aload_n 0, 1) := @dq_o42 cX10_look 108 (qX10_look_6 12 42 rfl)
theorem dX10_look_109 : decode cX10_look 109 = .ok (.invokevirtual 366, 3) := @dq_o182 cX10_look 109 1 110 (qX10_look_6 13 182 rfl) (qX10_look_6 14 1 rfl) (qX10_look_6 15 110 rfl)
theorem dX10_look_112 : decode cX10_look 112 = .ok (.ireturn, 1) := @dq_o172 cX10_look 112 (qX10_look_7 0 172 rfl)
theorem dX10_look_113 : decode cX10_look 113 = .ok (.aload_n 0, 1) := @dq_o42 cX10_look 113 (qX10_look_7 1 42 rfl)
theorem dX10_look_114 : decode cX10_look 114 = .ok (.getfield 27, 3) := @dq_o180 cX10_look 114 0 27 (qX10_look_7 2 180 rfl) (qX10_look_7 3 0 rfl) (qX10_look_7 4 27 rfl)
theorem dX10_look_117 : decode cX10_look 117 = .ok (.ireturn, 1) := @dq_o172 cX10_look 117 (qX10_look_7 5 172 rfl)
theorem dX10_look_118 : decode cX10_look 118 = .ok (.aload_n 0, 1) := @dq_o42 cX10_look 118 (qX10_look_7 6 42 rfl)
theorem dX10_look_119 : decode cX10_look 119 = .ok (.getfield 38, 3) := @dq_o180 cX10_look 119 0 38 (qX10_look_7 7 180 rfl) (qX10_look_7 8 0 rfl) (qX10_look_7 9 38 rfl)
theorem dX10_look_122 : decode cX10_look 122 = .ok (.ireturn, 1) := @dq_o172 cX10_look 122 (qX10_look_7 10 172 rfl)
theorem dX10_look_123 : decode cX10_look 123 = .ok (.aload_n 0, 1) := @dq_o42 cX10_look 123 (qX10_look_7 11 42 rfl)
theorem dX10_look_124 : decode cX10_look 124 = .ok (.getfield 12, 3) := @dq_o180 cX10_look 124 0 12 (qX10_look_7 12 180 rfl) (qX10_look_7 13 0 rfl) (qX10_look_7 14 12 rfl)
theorem dX10_look_127 : decode cX10_look 127 = .ok (.getfield 267, 3) := @dq_o180 cX10_look 127 1 11 (qX10_look_7 15 180 rfl) (qX10_look_8 0 1 rfl) (qX10_look_8 1 11 rfl)
theorem dX10_look_130 : decode cX10_look 130 = .ok (.iconst 0, 1) := @dq_o3 cX10_look 130 (qX10_look_8 2 3 rfl)
theorem dX10_look_131 : decode cX10_look 131 = .ok (.iaload, 1) := @dq_o46 cX10_look 131 (qX10_look_8 3 46 rfl)
theorem dX10_look_132 : decode cX10_look 132 = .ok (.ireturn, 1) := @dq_o172 cX10_look 132 (qX10_look_8 4 172 rfl)
theorem dX10_look_133 : decode cX10_look 133 = .ok (.aload_n 0, 1) := @dq_o42 cX10_look 133 (qX10_look_8 5 42 rfl)
theorem dX10_look_134 : decode cX10_look 134 = .ok (.getfield 53, 3) := @dq_o180 cX10_look 134 0 53 (qX10_look_8 6 180 rfl) (qX10_look_8 7 0 rfl) (qX10_look_8 8 53 rfl)
theorem dX10_look_137 : decode cX10_look 137 = .ok (.getfield 141, 3) := @dq_o180 cX10_look 137 0 141 (qX10_look_8 9 180 rfl) (qX10_look_8 10 0 rfl) (qX10_look_8 11 141 rfl)
theorem dX10_look_140 : decode cX10_look 140 = .ok (.ifCond .eq 10, 3) := @dq_o153 cX10_look 140 0 10 (qX10_look_8 12 153 rfl) (qX10_look_8 13 0 rfl) (qX10_look_8 14 10 rfl)
theorem dX10_look_143 : decode cX10_look 143 = .ok (.aload_n 0, 1) := @dq_o42 cX10_look 143 (qX10_look_8 15 42 rfl)
theorem dX10_look_144 : decode cX10_look 144 = .ok (.invokevirtual 369, 3) := @dq_o182 cX10_look 144 1 113 (qX10_look_9 0 182 rfl) (qX10_look_9 1 1 rfl) (qX10_look_9 2 113 rfl)
theorem dX10_look_147 : decode cX10_look 147 = .ok (.goto 4, 3) := @dq_o167 cX10_look 147 0 4 (qX10_look_9 3 167 rfl) (qX10_look_9 4 0 rfl) (qX10_look_9 5 4 rfl)
theorem dX10_look_150 : decode cX10_look 150 = .ok (.iconst 0, 1) := @dq_o3 cX10_look 150 (qX10_look_9 6 3 rfl)
theorem dX10_look_151 : decode cX10_look 151 = .ok (.ireturn, 1) := @dq_o172 cX10_look 151 (qX10_look_9 7 172 rfl)
theorem dX10_look_152 : decode cX10_look 152 = .ok (.iconst (-1), 1) := @dq_o2 cX10_look 152 (qX10_look_9 8 2 rfl)
theorem dX10_look_153 : decode cX10_look 153 = .ok (.ireturn, 1) := @dq_o172 cX10_look 153 (qX10_look_9 9 172 rfl)
abbrev qaX10_bit_0 : List Nat := [26, 153, 0, 7, 4, 167, 0, 4, 3, 172]
def qtX10_bit_1 : List Nat := []
def qtX10_bit_0 : List Nat := qaX10_bit_0 ++ qtX10_bit_1
theorem qeX10_bit : cX10_bit.data.toList.map UInt8.toNat = qtX10_bit_0 := by decide +kernel
theorem qsX10_bit_0 : ∀ i, dqNth qtX10_bit_0 (0 + i) = dqNth qtX10_bit_0 i := fun i => by rw [Nat.zero_add]
theorem qX10_bit_0 (i b : Nat) (h : dqNth qaX10_bit_0 i = some b) : DqBy cX10_bit (0 + i) b := dqBy_of qeX10_bit ((qsX10_bit_0 i).trans (dq_in h))
theorem dX10_bit_0 : decode cX10_bit 0 = .ok (.iload_n 0, 1) := @dq_o26 cX10_bit 0 (qX10_bit_0 0 26 rfl)
theorem dX10_bit_1 : decode cX10_bit 1 = .ok (.ifCond .eq 7, 3) := @dq_o153 cX10_bit 1 0 7 (qX10_bit_0 1 153 rfl) (qX10_bit_0 2 0 rfl) (qX10_bit_0 3 7 rfl)
theorem dX10_bit_4 : decode cX10_bit 4 = .ok (.iconst 1, 1) := @dq_o4 cX10_bit 4 (qX10_bit_0 4 4 rfl)
theorem dX10_bit_5 : decode cX10_bit 5 = .ok (.goto 4, 3) := @dq_o167 cX10_bit 5 0 4 (qX10_bit_0 5 167 rfl) (qX10_bit_0 6 0 rfl) (qX10_bit_0 7 4 rfl)
theorem dX10_bit_8 : decode cX10_bit 8 = .ok (.iconst 0, 1) := @dq_o3 cX10_bit 8 (qX10_bit_0 8 3 rfl)
theorem dX10_bit_9 : decode cX10_bit 9 = .ok (.ireturn, 1) := @dq_o172 cX10_bit 9 (qX10_bit_0 9 172 rfl)
abbrev qaX10_degree_0 : List Nat := [26, 5, 16, 11, 27, 100, 104, 122, 6, 126, 172]
def qtX10_degree_1 : List Nat := []
def qtX10_degree_0 : List Nat := qaX10_degree_0 ++ qtX10_degree_1
theorem qeX10_degree : cX10_degree.data.toList.map UInt8.toNat = qtX10_degree_0 := by decide +kernel
theorem qsX10_degree_0 : ∀ i, dqNth qtX10_degree_0 (0 + i) = dqNth qtX10_degree_0 i := fun i => by rw [Nat.zero_add]
theorem qX10_degree_0 (i b : Nat) (h : dqNth qaX10_degree_0 i = some b) : DqBy cX10_degree (0 + i) b := dqBy_of qeX10_degree ((qsX10_degree_0 i).trans (dq_in h))
theorem dX10_degree_0 : decode cX10_degree 0 = .ok (.iload_n 0, 1) := @dq_o26 cX10_degree 0 (qX10_degree_0 0 26 rfl)
theorem dX10_degree_1 : decode cX10_degree 1 = .ok (.iconst 2, 1) := @dq_o5 cX10_degree 1 (qX10_degree_0 1 5 rfl)
theorem dX10_degree_2 : decode cX10_degree 2 = .ok (.bipush 11, 2) := @dq_o16 cX10_degree 2 11 (qX10_degree_0 2 16 rfl) (qX10_degree_0 3 11 rfl)
theorem dX10_degree_4 : decode cX10_degree 4 = .ok (.iload_n 1, 1) := @dq_o27 cX10_degree 4 (qX10_degree_0 4 27 rfl)
theorem dX10_degree_5 : decode cX10_degree 5 = .ok (.isub, 1) := @dq_o100 cX10_degree 5 (qX10_degree_0 5 100 rfl)
theorem dX10_degree_6 : decode cX10_degree 6 = .ok (.imul, 1) := @dq_o104 cX10_degree 6 (qX10_degree_0 6 104 rfl)
theorem dX10_degree_7 : decode cX10_degree 7 = .ok (.ishr, 1) := @dq_o122 cX10_degree 7 (qX10_degree_0 7 122 rfl)
theorem dX10_degree_8 : decode cX10_degree 8 = .ok (.iconst 3, 1) := @dq_o6 cX10_degree 8 (qX10_degree_0 8 6 rfl)
theorem dX10_degree_9 : decode cX10_degree 9 = .ok (.iand, 1) := @dq_o126 cX10_degree 9 (qX10_degree_0 9 126 rfl)
theorem dX10_degree_10 : decode cX10_degree 10 = .ok (.ireturn, 1) := @dq_o172 cX10_degree 10 (qX10_degree_0 10 172 rfl)
abbrev qaX10_isRegister_0 : List Nat := [26, 155, 0, 13, 26, 16, 10, 162, 0, 7, 4, 167, 0, 4, 3, 172]
def qtX10_isRegister_1 : List Nat := []
def qtX10_isRegister_0 : List Nat := qaX10_isRegister_0 ++ qtX10_isRegister_1
theorem qeX10_isRegister : cX10_isRegister.data.toList.map UInt8.toNat = qtX10_isRegister_0 := by decide +kernel
theorem qsX10_isRegister_0 : ∀ i, dqNth qtX10_isRegister_0 (0 + i) = dqNth qtX10_isRegister_0 i := fun i => by rw [Nat.zero_add]
theorem qX10_isRegister_0 (i b : Nat) (h : dqNth qaX10_isRegister_0 i = some b) : DqBy cX10_isRegister (0 + i) b := dqBy_of qeX10_isRegister ((qsX10_isRegister_0 i).trans (dq_in h))
theorem dX10_isRegister_0 : decode cX10_isRegister 0 = .ok (.iload_n 0, 1) := @dq_o26 cX10_isRegister 0 (qX10_isRegister_0 0 26 rfl)
theorem dX10_isRegister_1 : decode cX10_isRegister 1 = .ok (.ifCond .lt 13, 3) := @dq_o155 cX10_isRegister 1 0 13 (qX10_isRegister_0 1 155 rfl) (qX10_isRegister_0 2 0 rfl) (qX10_isRegister_0 3 13 rfl)
theorem dX10_isRegister_4 : decode cX10_isRegister 4 = .ok (.iload_n 0, 1) := @dq_o26 cX10_isRegister 4 (qX10_isRegister_0 4 26 rfl)
theorem dX10_isRegister_5 : decode cX10_isRegister 5 = .ok (.bipush 10, 2) := @dq_o16 cX10_isRegister 5 10 (qX10_isRegister_0 5 16 rfl) (qX10_isRegister_0 6 10 rfl)
theorem dX10_isRegister_7 : decode cX10_isRegister 7 = .ok (.if_icmp .ge 7, 3) := @dq_o162 cX10_isRegister 7 0 7 (qX10_isRegister_0 7 162 rfl) (qX10_isRegister_0 8 0 rfl) (qX10_isRegister_0 9 7 rfl)
theorem dX10_isRegister_10 : decode cX10_isRegister 10 = .ok (.iconst 1, 1) := @dq_o4 cX10_isRegister 10 (qX10_isRegister_0 10 4 rfl)
theorem dX10_isRegister_11 : decode cX10_isRegister 11 = .ok (.goto 4, 3) := @dq_o167 cX10_isRegister 11 0 4 (qX10_isRegister_0 11 167 rfl) (qX10_isRegister_0 12 0 rfl) (qX10_isRegister_0 13 4 rfl)
theorem dX10_isRegister_14 : decode cX10_isRegister 14 = .ok (.iconst 0, 1) := @dq_o3 cX10_isRegister 14 (qX10_isRegister_0 14 3 rfl)
theorem dX10_isRegister_15 : decode cX10_isRegister 15 = .ok (.ireturn, 1) := @dq_o172 cX10_isRegister 15 (qX10_isRegister_0 15 172 rfl)
abbrev qaX10_areUsable_0 : List Nat := [27, 184, 0, 204, 153, 0, 24, 28, 184, 0, 204, 153, 0, 17, 42, 180]
abbrev qaX10_areUsable_1 : List Nat := [0, 53, 180, 0, 141, 153, 0, 7, 4, 167, 0, 4, 3, 172]
def qtX10_areUsable_2 : List Nat := []
def qtX10_areUsable_1 : List Nat := qaX10_areUsable_1 ++ qtX10_areUsable_2
def qtX10_areUsable_0 : List Nat := qaX10_areUsable_0 ++ qtX10_areUsable_1
theorem qeX10_areUsable : cX10_areUsable.data.toList.map UInt8.toNat = qtX10_areUsable_0 := by decide +kernel
theorem qsX10_areUsable_0 : ∀ i, dqNth qtX10_areUsable_0 (0 + i) = dqNth qtX10_areUsable_0 i := fun i => by rw [Nat.zero_add]
theorem qsX10_areUsable_1 : ∀ i, dqNth qtX10_areUsable_0 (16 + i) = dqNth qtX10_areUsable_1 i := dq_step qsX10_areUsable_0 rfl rfl
theorem qX10_areUsable_0 (i b : Nat) (h : dqNth qaX10_areUsable_0 i = some b) : DqBy cX10_areUsable (0 + i) b := dqBy_of qeX10_areUsable ((qsX10_areUsable_0 i).trans (dq_in h))
theorem qX10_areUsable_1 (i b : Nat) (h : dqNth qaX10_areUsable_1 i = some b) : DqBy cX10_areUsable (16 + i) b := dqBy_of qeX10_areUsable ((qsX10_areUsable_1 i).trans (dq_in h))
theorem dX10_areUsable_0 : decode cX10_areUsable 0 = .ok (.iload_n 1, 1) := @dq_o27 cX10_areUsable 0 (qX10_areUsable_0 0 27 rfl)
theorem dX10_areUsable_1 : decode cX10_areUsable 1 = .ok (.invokestatic 204, 3) := @dq_o184 cX10_areUsable 1 0 204 (qX10_areUsable_0 1 184 rfl) (qX10_areUsable_0 2 0 rfl) (qX10_areUsable_0 3 204 rfl)
theorem dX10_areUsable_4 : decode cX10_areUsable 4 = .ok (.ifCond .eq 24, 3) := @dq_o153 cX10_areUsable 4 0 24 (qX10_areUsable_0 4 153 rfl) (qX10_areUsable_0 5 0 rfl) (qX10_areUsable_0 6 24 rfl)
theorem dX10_areUsable_7 : decode cX10_areUsable 7 = .ok (.iload_n 2, 1) := @dq_o28 cX10_areUsable 7 (qX10_areUsable_0 7 28 rfl)
theorem dX10_areUsable_8 : decode cX10_areUsable 8 = .ok (.invokestatic 204, 3) := @dq_o184 cX10_areUsable 8 0 204 (qX10_areUsable_0 8 184 rfl) (qX10_areUsable_0 9 0 rfl) (qX10_areUsable_0 10 204 rfl)
theorem dX10_areUsable_11 : decode cX10_areUsable 11 = .ok (.ifCond .eq 17, 3) := @dq_o153 cX10_areUsable 11 0 17 (qX10_areUsable_0 11 153 rfl) (qX10_areUsable_0 12 0 rfl) (qX10_areUsable_0 13 17 rfl)
theorem dX10_areUsable_14 : decode cX10_areUsable 14 = .ok (.aload_n 0, 1) := @dq_o42 cX10_areUsable 14 (qX10_areUsable_0 14 42 rfl)
theorem dX10_areUsable_15 : decode cX10_areUsable 15 = .ok (.getfield 53, 3) := @dq_o180 cX10_areUsable 15 0 53 (qX10_areUsable_0 15 180 rfl) (qX10_areUsable_1 0 0 rfl) (qX10_areUsable_1 1 53 rfl)
theorem dX10_areUsable_18 : decode cX10_areUsable 18 = .ok (.getfield 141, 3) := @dq_o180 cX10_areUsable 18 0 141 (qX10_areUsable_1 2 180 rfl) (qX10_areUsable_1 3 0 rfl) (qX10_areUsable_1 4 141 rfl)
theorem dX10_areUsable_21 : decode cX10_areUsable 21 = .ok (.ifCond .eq 7, 3) := @dq_o153 cX10_areUsable 21 0 7 (qX10_areUsable_1 5 153 rfl) (qX10_areUsable_1 6 0 rfl) (qX10_areUsable_1 7 7 rfl)
theorem dX10_areUsable_24 : decode cX10_areUsable 24 = .ok (.iconst 1, 1) := @dq_o4 cX10_areUsable 24 (qX10_areUsable_1 8 4 rfl)
theorem dX10_areUsable_25 : decode cX10_areUsable 25 = .ok (.goto 4, 3) := @dq_o167 cX10_areUsable 25 0 4 (qX10_areUsable_1 9 167 rfl) (qX10_areUsable_1 10 0 rfl) (qX10_areUsable_1 11 4 rfl)
theorem dX10_areUsable_28 : decode cX10_areUsable 28 = .ok (.iconst 0, 1) := @dq_o3 cX10_areUsable 28 (qX10_areUsable_1 12 3 rfl)
theorem dX10_areUsable_29 : decode cX10_areUsable 29 = .ok (.ireturn, 1) := @dq_o172 cX10_areUsable 29 (qX10_areUsable_1 13 172 rfl)
abbrev qaX10_isGenerator_0 : List Nat := [27, 4, 161, 0, 21, 27, 42, 180, 0, 12, 180, 0, 105, 180, 0, 178]
abbrev qaX10_isGenerator_1 : List Nat := [163, 0, 7, 4, 167, 0, 4, 3, 172]
def qtX10_isGenerator_2 : List Nat := []
def qtX10_isGenerator_1 : List Nat := qaX10_isGenerator_1 ++ qtX10_isGenerator_2
def qtX10_isGenerator_0 : List Nat := qaX10_isGenerator_0 ++ qtX10_isGenerator_1
theorem qeX10_isGenerator : cX10_isGenerator.data.toList.map UInt8.toNat = qtX10_isGenerator_0 := by decide +kernel
theorem qsX10_isGenerator_0 : ∀ i, dqNth qtX10_isGenerator_0 (0 + i) = dqNth qtX10_isGenerator_0 i := fun i => by rw [Nat.zero_add]
theorem qsX10_isGenerator_1 : ∀ i, dqNth qtX10_isGenerator_0 (16 + i) = dqNth qtX10_isGenerator_1 i := dq_step qsX10_isGenerator_0 rfl rfl
theorem qX10_isGenerator_0 (i b : Nat) (h : dqNth qaX10_isGenerator_0 i = some b) : DqBy cX10_isGenerator (0 + i) b := dqBy_of qeX10_isGenerator ((qsX10_isGenerator_0 i).trans (dq_in h))
theorem qX10_isGenerator_1 (i b : Nat) (h : dqNth qaX10_isGenerator_1 i = some b) : DqBy cX10_isGenerator (16 + i) b := dqBy_of qeX10_isGenerator ((qsX10_isGenerator_1 i).trans (dq_in h))
theorem dX10_isGenerator_0 : decode cX10_isGenerator 0 = .ok (.iload_n 1, 1) := @dq_o27 cX10_isGenerator 0 (qX10_isGenerator_0 0 27 rfl)
theorem dX10_isGenerator_1 : decode cX10_isGenerator 1 = .ok (.iconst 1, 1) := @dq_o4 cX10_isGenerator 1 (qX10_isGenerator_0 1 4 rfl)
theorem dX10_isGenerator_2 : decode cX10_isGenerator 2 = .ok (.if_icmp .lt 21, 3) := @dq_o161 cX10_isGenerator 2 0 21 (qX10_isGenerator_0 2 161 rfl) (qX10_isGenerator_0 3 0 rfl) (qX10_isGenerator_0 4 21 rfl)
theorem dX10_isGenerator_5 : decode cX10_isGenerator 5 = .ok (.iload_n 1, 1) := @dq_o27 cX10_isGenerator 5 (qX10_isGenerator_0 5 27 rfl)
theorem dX10_isGenerator_6 : decode cX10_isGenerator 6 = .ok (.aload_n 0, 1) := @dq_o42 cX10_isGenerator 6 (qX10_isGenerator_0 6 42 rfl)
theorem dX10_isGenerator_7 : decode cX10_isGenerator 7 = .ok (.getfield 12, 3) := @dq_o180 cX10_isGenerator 7 0 12 (qX10_isGenerator_0 7 180 rfl) (qX10_isGenerator_0 8 0 rfl) (qX10_isGenerator_0 9 12 rfl)
theorem dX10_isGenerator_10 : decode cX10_isGenerator 10 = .ok (.getfield 105, 3) := @dq_o180 cX10_isGenerator 10 0 105 (qX10_isGenerator_0 10 180 rfl) (qX10_isGenerator_0 11 0 rfl) (qX10_isGenerator_0 12 105 rfl)
theorem dX10_isGenerator_13 : decode cX10_isGenerator 13 = .ok (.getfield 178, 3) := @dq_o180 cX10_isGenerator 13 0 178 (qX10_isGenerator_0 13 180 rfl) (qX10_isGenerator_0 14 0 rfl) (qX10_isGenerator_0 15 178 rfl)
theorem dX10_isGenerator_16 : decode cX10_isGenerator 16 = .ok (.if_icmp .gt 7, 3) := @dq_o163 cX10_isGenerator 16 0 7 (qX10_isGenerator_1 0 163 rfl) (qX10_isGenerator_1 1 0 rfl) (qX10_isGenerator_1 2 7 rfl)
theorem dX10_isGenerator_19 : decode cX10_isGenerator 19 = .ok (.iconst 1, 1) := @dq_o4 cX10_isGenerator 19 (qX10_isGenerator_1 3 4 rfl)
theorem dX10_isGenerator_20 : decode cX10_isGenerator 20 = .ok (.goto 4, 3) := @dq_o167 cX10_isGenerator 20 0 4 (qX10_isGenerator_1 4 167 rfl) (qX10_isGenerator_1 5 0 rfl) (qX10_isGenerator_1 6 4 rfl)
theorem dX10_isGenerator_23 : decode cX10_isGenerator 23 = .ok (.iconst 0, 1) := @dq_o3 cX10_isGenerator 23 (qX10_isGenerator_1 7 3 rfl)
theorem dX10_isGenerator_24 : decode cX10_isGenerator 24 = .ok (.ireturn, 1) := @dq_o172 cX10_isGenerator 24 (qX10_isGenerator_1 8 172 rfl)
abbrev qaX10_hasPolynomial_0 : List Nat := [42, 27, 182, 0, 148, 153, 0, 17, 42, 180, 0, 53, 180, 0, 141, 153]
abbrev qaX10_hasPolynomial_1 : List Nat := [0, 7, 4, 167, 0, 4, 3, 172]
def qtX10_hasPolynomial_2 : List Nat := []
def qtX10_hasPolynomial_1 : List Nat := qaX10_hasPolynomial_1 ++ qtX10_hasPolynomial_2
def qtX10_hasPolynomial_0 : List Nat := qaX10_hasPolynomial_0 ++ qtX10_hasPolynomial_1
theorem qeX10_hasPolynomial : cX10_hasPolynomial.data.toList.map UInt8.toNat = qtX10_hasPolynomial_0 := by decide +kernel
theorem qsX10_hasPolynomial_0 : ∀ i, dqNth qtX10_hasPolynomial_0 (0 + i) = dqNth qtX10_hasPolynomial_0 i := fun i => by rw [Nat.zero_add]
theorem qsX10_hasPolynomial_1 : ∀ i, dqNth qtX10_hasPolynomial_0 (16 + i) = dqNth qtX10_hasPolynomial_1 i := dq_step qsX10_hasPolynomial_0 rfl rfl
theorem qX10_hasPolynomial_0 (i b : Nat) (h : dqNth qaX10_hasPolynomial_0 i = some b) : DqBy cX10_hasPolynomial (0 + i) b := dqBy_of qeX10_hasPolynomial ((qsX10_hasPolynomial_0 i).trans (dq_in h))
theorem qX10_hasPolynomial_1 (i b : Nat) (h : dqNth qaX10_hasPolynomial_1 i = some b) : DqBy cX10_hasPolynomial (16 + i) b := dqBy_of qeX10_hasPolynomial ((qsX10_hasPolynomial_1 i).trans (dq_in h))
theorem dX10_hasPolynomial_0 : decode cX10_hasPolynomial 0 = .ok (.aload_n 0, 1) := @dq_o42 cX10_hasPolynomial 0 (qX10_hasPolynomial_0 0 42 rfl)
theorem dX10_hasPolynomial_1 : decode cX10_hasPolynomial 1 = .ok (.iload_n 1, 1) := @dq_o27 cX10_hasPolynomial 1 (qX10_hasPolynomial_0 1 27 rfl)
theorem dX10_hasPolynomial_2 : decode cX10_hasPolynomial 2 = .ok (.invokevirtual 148, 3) := @dq_o182 cX10_hasPolynomial 2 0 148 (qX10_hasPolynomial_0 2 182 rfl) (qX10_hasPolynomial_0 3 0 rfl) (qX10_hasPolynomial_0 4 148 rfl)
theorem dX10_hasPolynomial_5 : decode cX10_hasPolynomial 5 = .ok (.ifCond .eq 17, 3) := @dq_o153 cX10_hasPolynomial 5 0 17 (qX10_hasPolynomial_0 5 153 rfl) (qX10_hasPolynomial_0 6 0 rfl) (qX10_hasPolynomial_0 7 17 rfl)
theorem dX10_hasPolynomial_8 : decode cX10_hasPolynomial 8 = .ok (.aload_n 0, 1) := @dq_o42 cX10_hasPolynomial 8 (qX10_hasPolynomial_0 8 42 rfl)
theorem dX10_hasPolynomial_9 : decode cX10_hasPolynomial 9 = .ok (.getfield 53, 3) := @dq_o180 cX10_hasPolynomial 9 0 53 (qX10_hasPolynomial_0 9 180 rfl) (qX10_hasPolynomial_0 10 0 rfl) (qX10_hasPolynomial_0 11 53 rfl)
theorem dX10_hasPolynomial_12 : decode cX10_hasPolynomial 12 = .ok (.getfield 141, 3) := @dq_o180 cX10_hasPolynomial 12 0 141 (qX10_hasPolynomial_0 12 180 rfl) (qX10_hasPolynomial_0 13 0 rfl) (qX10_hasPolynomial_0 14 141 rfl)
theorem dX10_hasPolynomial_15 : decode cX10_hasPolynomial 15 = .ok (.ifCond .eq 7, 3) := @dq_o153 cX10_hasPolynomial 15 0 7 (qX10_hasPolynomial_0 15 153 rfl) (qX10_hasPolynomial_1 0 0 rfl) (qX10_hasPolynomial_1 1 7 rfl)
theorem dX10_hasPolynomial_18 : decode cX10_hasPolynomial 18 = .ok (.iconst 1, 1) := @dq_o4 cX10_hasPolynomial 18 (qX10_hasPolynomial_1 2 4 rfl)
theorem dX10_hasPolynomial_19 : decode cX10_hasPolynomial 19 = .ok (.goto 4, 3) := @dq_o167 cX10_hasPolynomial 19 0 4 (qX10_hasPolynomial_1 3 167 rfl) (qX10_hasPolynomial_1 4 0 rfl) (qX10_hasPolynomial_1 5 4 rfl)
theorem dX10_hasPolynomial_22 : decode cX10_hasPolynomial 22 = .ok (.iconst 0, 1) := @dq_o3 cX10_hasPolynomial 22 (qX10_hasPolynomial_1 6 3 rfl)
theorem dX10_hasPolynomial_23 : decode cX10_hasPolynomial 23 = .ok (.ireturn, 1) := @dq_o172 cX10_hasPolynomial 23 (qX10_hasPolynomial_1 7 172 rfl)
abbrev qaX10_beginAct_0 : List Nat := [42, 180, 0, 23, 42, 180, 0, 31, 50, 42, 180, 0, 12, 182, 1, 94]
abbrev qaX10_beginAct_1 : List Nat := [42, 42, 180, 0, 31, 4, 96, 16, 8, 112, 181, 0, 31, 42, 42, 180]
abbrev qaX10_beginAct_2 : List Nat := [0, 27, 4, 96, 16, 8, 184, 1, 116, 181, 0, 27, 177]
def qtX10_beginAct_3 : List Nat := []
def qtX10_beginAct_2 : List Nat := qaX10_beginAct_2 ++ qtX10_beginAct_3
def qtX10_beginAct_1 : List Nat := qaX10_beginAct_1 ++ qtX10_beginAct_2
def qtX10_beginAct_0 : List Nat := qaX10_beginAct_0 ++ qtX10_beginAct_1
theorem qeX10_beginAct : cX10_beginAct.data.toList.map UInt8.toNat = qtX10_beginAct_0 := by decide +kernel
theorem qsX10_beginAct_0 : ∀ i, dqNth qtX10_beginAct_0 (0 + i) = dqNth qtX10_beginAct_0 i := fun i => by rw [Nat.zero_add]
theorem qsX10_beginAct_1 : ∀ i, dqNth qtX10_beginAct_0 (16 + i) = dqNth qtX10_beginAct_1 i := dq_step qsX10_beginAct_0 rfl rfl
theorem qsX10_beginAct_2 : ∀ i, dqNth qtX10_beginAct_0 (32 + i) = dqNth qtX10_beginAct_2 i := dq_step qsX10_beginAct_1 rfl rfl
theorem qX10_beginAct_0 (i b : Nat) (h : dqNth qaX10_beginAct_0 i = some b) : DqBy cX10_beginAct (0 + i) b := dqBy_of qeX10_beginAct ((qsX10_beginAct_0 i).trans (dq_in h))
theorem qX10_beginAct_1 (i b : Nat) (h : dqNth qaX10_beginAct_1 i = some b) : DqBy cX10_beginAct (16 + i) b := dqBy_of qeX10_beginAct ((qsX10_beginAct_1 i).trans (dq_in h))
theorem qX10_beginAct_2 (i b : Nat) (h : dqNth qaX10_beginAct_2 i = some b) : DqBy cX10_beginAct (32 + i) b := dqBy_of qeX10_beginAct ((qsX10_beginAct_2 i).trans (dq_in h))
theorem dX10_beginAct_0 : decode cX10_beginAct 0 = .ok (.aload_n 0, 1) := @dq_o42 cX10_beginAct 0 (qX10_beginAct_0 0 42 rfl)
theorem dX10_beginAct_1 : decode cX10_beginAct 1 = .ok (.getfield 23, 3) := @dq_o180 cX10_beginAct 1 0 23 (qX10_beginAct_0 1 180 rfl) (qX10_beginAct_0 2 0 rfl) (qX10_beginAct_0 3 23 rfl)
theorem dX10_beginAct_4 : decode cX10_beginAct 4 = .ok (.aload_n 0, 1) := @dq_o42 cX10_beginAct 4 (qX10_beginAct_0 4 42 rfl)
theorem dX10_beginAct_5 : decode cX10_beginAct 5 = .ok (.getfield 31, 3) := @dq_o180 cX10_beginAct 5 0 31 (qX10_beginAct_0 5 180 rfl) (qX10_beginAct_0 6 0 rfl) (qX10_beginAct_0 7 31 rfl)
theorem dX10_beginAct_8 : decode cX10_beginAct 8 = .ok (.aaload, 1) := @dq_o50 cX10_beginAct 8 (qX10_beginAct_0 8 50 rfl)
theorem dX10_beginAct_9 : decode cX10_beginAct 9 = .ok (.aload_n 0, 1) := @dq_o42 cX10_beginAct 9 (qX10_beginAct_0 9 42 rfl)
theorem dX10_beginAct_10 : decode cX10_beginAct 10 = .ok (.getfield 12, 3) := @dq_o180 cX10_beginAct 10 0 12 (qX10_beginAct_0 10 180 rfl) (qX10_beginAct_0 11 0 rfl) (qX10_beginAct_0 12 12 rfl)
theorem dX10_beginAct_13 : decode cX10_beginAct 13 = .ok (.invokevirtual 350, 3) := @dq_o182 cX10_beginAct 13 1 94 (qX10_beginAct_0 13 182 rfl) (qX10_beginAct_0 14 1 rfl) (qX10_beginAct_0 15 94 rfl)
theorem dX10_beginAct_16 : decode cX10_beginAct 16 = .ok (.aload_n 0, 1) := @dq_o42 cX10_beginAct 16 (qX10_beginAct_1 0 42 rfl)
theorem dX10_beginAct_17 : decode cX10_beginAct 17 = .ok (.aload_n 0, 1) := @dq_o42 cX10_beginAct 17 (qX10_beginAct_1 1 42 rfl)
theorem dX10_beginAct_18 : decode cX10_beginAct 18 = .ok (.getfield 31, 3) := @dq_o180 cX10_beginAct 18 0 31 (qX10_beginAct_1 2 180 rfl) (qX10_beginAct_1 3 0 rfl) (qX10_beginAct_1 4 31 rfl)
theorem dX10_beginAct_21 : decode cX10_beginAct 21 = .ok (.iconst 1, 1) := @dq_o4 cX10_beginAct 21 (qX10_beginAct_1 5 4 rfl)
theorem dX10_beginAct_22 : decode cX10_beginAct 22 = .ok (.iadd, 1) := @dq_o96 cX10_beginAct 22 (qX10_beginAct_1 6 96 rfl)
theorem dX10_beginAct_23 : decode cX10_beginAct 23 = .ok (.bipush 8, 2) := @dq_o16 cX10_beginAct 23 8 (qX10_beginAct_1 7 16 rfl) (qX10_beginAct_1 8 8 rfl)
theorem dX10_beginAct_25 : decode cX10_beginAct 25 = .ok (.irem, 1) := @dq_o112 cX10_beginAct 25 (qX10_beginAct_1 9 112 rfl)
theorem dX10_beginAct_26 : decode cX10_beginAct 26 = .ok (.putfield 31, 3) := @dq_o181 cX10_beginAct 26 0 31 (qX10_beginAct_1 10 181 rfl) (qX10_beginAct_1 11 0 rfl) (qX10_beginAct_1 12 31 rfl)
theorem dX10_beginAct_29 : decode cX10_beginAct 29 = .ok (.aload_n 0, 1) := @dq_o42 cX10_beginAct 29 (qX10_beginAct_1 13 42 rfl)
theorem dX10_beginAct_30 : decode cX10_beginAct 30 = .ok (.aload_n 0, 1) := @dq_o42 cX10_beginAct 30 (qX10_beginAct_1 14 42 rfl)
theorem dX10_beginAct_31 : decode cX10_beginAct 31 = .ok (.getfield 27, 3) := @dq_o180 cX10_beginAct 31 0 27 (qX10_beginAct_1 15 180 rfl) (qX10_beginAct_2 0 0 rfl) (qX10_beginAct_2 1 27 rfl)
theorem dX10_beginAct_34 : decode cX10_beginAct 34 = .ok (.iconst 1, 1) := @dq_o4 cX10_beginAct 34 (qX10_beginAct_2 2 4 rfl)
theorem dX10_beginAct_35 : decode cX10_beginAct 35 = .ok (.iadd, 1) := @dq_o96 cX10_beginAct 35 (qX10_beginAct_2 3 96 rfl)
theorem dX10_beginAct_36 : decode cX10_beginAct 36 = .ok (.bipush 8, 2) := @dq_o16 cX10_beginAct 36 8 (qX10_beginAct_2 4 16 rfl) (qX10_beginAct_2 5 8 rfl)
theorem dX10_beginAct_38 : decode cX10_beginAct 38 = .ok (.invokestatic 372, 3) := @dq_o184 cX10_beginAct 38 1 116 (qX10_beginAct_2 6 184 rfl) (qX10_beginAct_2 7 1 rfl) (qX10_beginAct_2 8 116 rfl)
theorem dX10_beginAct_41 : decode cX10_beginAct 41 = .ok (.putfield 27, 3) := @dq_o181 cX10_beginAct 41 0 27 (qX10_beginAct_2 9 181 rfl) (qX10_beginAct_2 10 0 rfl) (qX10_beginAct_2 11 27 rfl)
theorem dX10_beginAct_44 : decode cX10_beginAct 44 = .ok (.return_, 1) := @dq_o177 cX10_beginAct 44 (qX10_beginAct_2 12 177 rfl)
abbrev qaX10_beginGroupAct_0 : List Nat := [42, 182, 0, 207, 42, 180, 0, 12, 182, 1, 121, 177]
def qtX10_beginGroupAct_1 : List Nat := []
def qtX10_beginGroupAct_0 : List Nat := qaX10_beginGroupAct_0 ++ qtX10_beginGroupAct_1
theorem qeX10_beginGroupAct : cX10_beginGroupAct.data.toList.map UInt8.toNat = qtX10_beginGroupAct_0 := by decide +kernel
theorem qsX10_beginGroupAct_0 : ∀ i, dqNth qtX10_beginGroupAct_0 (0 + i) = dqNth qtX10_beginGroupAct_0 i := fun i => by rw [Nat.zero_add]
theorem qX10_beginGroupAct_0 (i b : Nat) (h : dqNth qaX10_beginGroupAct_0 i = some b) : DqBy cX10_beginGroupAct (0 + i) b := dqBy_of qeX10_beginGroupAct ((qsX10_beginGroupAct_0 i).trans (dq_in h))
theorem dX10_beginGroupAct_0 : decode cX10_beginGroupAct 0 = .ok (.aload_n 0, 1) := @dq_o42 cX10_beginGroupAct 0 (qX10_beginGroupAct_0 0 42 rfl)
theorem dX10_beginGroupAct_1 : decode cX10_beginGroupAct 1 = .ok (.invokevirtual 207, 3) := @dq_o182 cX10_beginGroupAct 1 0 207 (qX10_beginGroupAct_0 1 182 rfl) (qX10_beginGroupAct_0 2 0 rfl) (qX10_beginGroupAct_0 3 207 rfl)
theorem dX10_beginGroupAct_4 : decode cX10_beginGroupAct 4 = .ok (.aload_n 0, 1) := @dq_o42 cX10_beginGroupAct 4 (qX10_beginGroupAct_0 4 42 rfl)
theorem dX10_beginGroupAct_5 : decode cX10_beginGroupAct 5 = .ok (.getfield 12, 3) := @dq_o180 cX10_beginGroupAct 5 0 12 (qX10_beginGroupAct_0 5 180 rfl) (qX10_beginGroupAct_0 6 0 rfl) (qX10_beginGroupAct_0 7 12 rfl)
theorem dX10_beginGroupAct_8 : decode cX10_beginGroupAct 8 = .ok (.invokevirtual 377, 3) := @dq_o182 cX10_beginGroupAct 8 1 121 (qX10_beginGroupAct_0 8 182 rfl) (qX10_beginGroupAct_0 9 1 rfl) (qX10_beginGroupAct_0 10 121 rfl)
theorem dX10_beginGroupAct_11 : decode cX10_beginGroupAct 11 = .ok (.return_, 1) := @dq_o177 cX10_beginGroupAct 11 (qX10_beginGroupAct_0 11 177 rfl)
abbrev qaX10_keep_0 : List Nat := [27, 184, 0, 204, 153, 0, 16, 42, 180, 0, 98, 20, 1, 124, 184, 1]
abbrev qaX10_keep_1 : List Nat := [70, 154, 0, 5, 3, 172, 42, 182, 0, 207, 42, 180, 0, 98, 42, 180]
abbrev qaX10_keep_2 : List Nat := [0, 12, 180, 0, 210, 27, 50, 184, 1, 5, 4, 172]
def qtX10_keep_3 : List Nat := []
def qtX10_keep_2 : List Nat := qaX10_keep_2 ++ qtX10_keep_3
def qtX10_keep_1 : List Nat := qaX10_keep_1 ++ qtX10_keep_2
def qtX10_keep_0 : List Nat := qaX10_keep_0 ++ qtX10_keep_1
theorem qeX10_keep : cX10_keep.data.toList.map UInt8.toNat = qtX10_keep_0 := by decide +kernel
theorem qsX10_keep_0 : ∀ i, dqNth qtX10_keep_0 (0 + i) = dqNth qtX10_keep_0 i := fun i => by rw [Nat.zero_add]
theorem qsX10_keep_1 : ∀ i, dqNth qtX10_keep_0 (16 + i) = dqNth qtX10_keep_1 i := dq_step qsX10_keep_0 rfl rfl
theorem qsX10_keep_2 : ∀ i, dqNth qtX10_keep_0 (32 + i) = dqNth qtX10_keep_2 i := dq_step qsX10_keep_1 rfl rfl
theorem qX10_keep_0 (i b : Nat) (h : dqNth qaX10_keep_0 i = some b) : DqBy cX10_keep (0 + i) b := dqBy_of qeX10_keep ((qsX10_keep_0 i).trans (dq_in h))
theorem qX10_keep_1 (i b : Nat) (h : dqNth qaX10_keep_1 i = some b) : DqBy cX10_keep (16 + i) b := dqBy_of qeX10_keep ((qsX10_keep_1 i).trans (dq_in h))
theorem qX10_keep_2 (i b : Nat) (h : dqNth qaX10_keep_2 i = some b) : DqBy cX10_keep (32 + i) b := dqBy_of qeX10_keep ((qsX10_keep_2 i).trans (dq_in h))
theorem dX10_keep_0 : decode cX10_keep 0 = .ok (.iload_n 1, 1) := @dq_o27 cX10_keep 0 (qX10_keep_0 0 27 rfl)
theorem dX10_keep_1 : decode cX10_keep 1 = .ok (.invokestatic 204, 3) := @dq_o184 cX10_keep 1 0 204 (qX10_keep_0 1 184 rfl) (qX10_keep_0 2 0 rfl) (qX10_keep_0 3 204 rfl)
theorem dX10_keep_4 : decode cX10_keep 4 = .ok (.ifCond .eq 16, 3) := @dq_o153 cX10_keep 4 0 16 (qX10_keep_0 4 153 rfl) (qX10_keep_0 5 0 rfl) (qX10_keep_0 6 16 rfl)
theorem dX10_keep_7 : decode cX10_keep 7 = .ok (.aload_n 0, 1) := @dq_o42 cX10_keep 7 (qX10_keep_0 7 42 rfl)
theorem dX10_keep_8 : decode cX10_keep 8 = .ok (.getfield 98, 3) := @dq_o180 cX10_keep 8 0 98 (qX10_keep_0 8 180 rfl) (qX10_keep_0 9 0 rfl) (qX10_keep_0 10 98 rfl)
theorem dX10_keep_11 : decode cX10_keep 11 = .ok (.ldc2_w 380, 3) := @dq_o20 cX10_keep 11 1 124 (qX10_keep_0 11 20 rfl) (qX10_keep_0 12 1 rfl) (qX10_keep_0 13 124 rfl)
theorem dX10_keep_14 : decode cX10_keep 14 = .ok (.invokestatic 326, 3) := @dq_o184 cX10_keep 14 1 70 (qX10_keep_0 14 184 rfl) (qX10_keep_0 15 1 rfl) (qX10_keep_1 0 70 rfl)
theorem dX10_keep_17 : decode cX10_keep 17 = .ok (.ifCond .ne 5, 3) := @dq_o154 cX10_keep 17 0 5 (qX10_keep_1 1 154 rfl) (qX10_keep_1 2 0 rfl) (qX10_keep_1 3 5 rfl)
theorem dX10_keep_20 : decode cX10_keep 20 = .ok (.iconst 0, 1) := @dq_o3 cX10_keep 20 (qX10_keep_1 4 3 rfl)
theorem dX10_keep_21 : decode cX10_keep 21 = .ok (.ireturn, 1) := @dq_o172 cX10_keep 21 (qX10_keep_1 5 172 rfl)
theorem dX10_keep_22 : decode cX10_keep 22 = .ok (.aload_n 0, 1) := @dq_o42 cX10_keep 22 (qX10_keep_1 6 42 rfl)
theorem dX10_keep_23 : decode cX10_keep 23 = .ok (.invokevirtual 207, 3) := @dq_o182 cX10_keep 23 0 207 (qX10_keep_1 7 182 rfl) (qX10_keep_1 8 0 rfl) (qX10_keep_1 9 207 rfl)
theorem dX10_keep_26 : decode cX10_keep 26 = .ok (.aload_n 0, 1) := @dq_o42 cX10_keep 26 (qX10_keep_1 10 42 rfl)
theorem dX10_keep_27 : decode cX10_keep 27 = .ok (.getfield 98, 3) := @dq_o180 cX10_keep 27 0 98 (qX10_keep_1 11 180 rfl) (qX10_keep_1 12 0 rfl) (qX10_keep_1 13 98 rfl)
theorem dX10_keep_30 : decode cX10_keep 30 = .ok (.aload_n 0, 1) := @dq_o42 cX10_keep 30 (qX10_keep_1 14 42 rfl)
theorem dX10_keep_31 : decode cX10_keep 31 = .ok (.getfield 12, 3) := @dq_o180 cX10_keep 31 0 12 (qX10_keep_1 15 180 rfl) (qX10_keep_2 0 0 rfl) (qX10_keep_2 1 12 rfl)
theorem dX10_keep_34 : decode cX10_keep 34 = .ok (.getfield 210, 3) := @dq_o180 cX10_keep 34 0 210 (qX10_keep_2 2 180 rfl) (qX10_keep_2 3 0 rfl) (qX10_keep_2 4 210 rfl)
theorem dX10_keep_37 : decode cX10_keep 37 = .ok (.iload_n 1, 1) := @dq_o27 cX10_keep 37 (qX10_keep_2 5 27 rfl)
theorem dX10_keep_38 : decode cX10_keep 38 = .ok (.aaload, 1) := @dq_o50 cX10_keep 38 (qX10_keep_2 6 50 rfl)
theorem dX10_keep_39 : decode cX10_keep 39 = .ok (.invokestatic 261, 3) := @dq_o184 cX10_keep 39 1 5 (qX10_keep_2 7 184 rfl) (qX10_keep_2 8 1 rfl) (qX10_keep_2 9 5 rfl)
theorem dX10_keep_42 : decode cX10_keep 42 = .ok (.iconst 1, 1) := @dq_o4 cX10_keep 42 (qX10_keep_2 10 4 rfl)
theorem dX10_keep_43 : decode cX10_keep 43 = .ok (.ireturn, 1) := @dq_o172 cX10_keep 43 (qX10_keep_2 11 172 rfl)
abbrev qaX10_keepCounted_0 : List Nat := [42, 180, 0, 98, 20, 1, 124, 184, 1, 70, 154, 0, 18, 42, 180, 0]
abbrev qaX10_keepCounted_1 : List Nat := [12, 180, 1, 11, 3, 92, 46, 4, 96, 79, 3, 172, 42, 27, 182, 0]
abbrev qaX10_keepCounted_2 : List Nat := [242, 172]
def qtX10_keepCounted_3 : List Nat := []
def qtX10_keepCounted_2 : List Nat := qaX10_keepCounted_2 ++ qtX10_keepCounted_3
def qtX10_keepCounted_1 : List Nat := qaX10_keepCounted_1 ++ qtX10_keepCounted_2
def qtX10_keepCounted_0 : List Nat := qaX10_keepCounted_0 ++ qtX10_keepCounted_1
theorem qeX10_keepCounted : cX10_keepCounted.data.toList.map UInt8.toNat = qtX10_keepCounted_0 := by decide +kernel
theorem qsX10_keepCounted_0 : ∀ i, dqNth qtX10_keepCounted_0 (0 + i) = dqNth qtX10_keepCounted_0 i := fun i => by rw [Nat.zero_add]
theorem qsX10_keepCounted_1 : ∀ i, dqNth qtX10_keepCounted_0 (16 + i) = dqNth qtX10_keepCounted_1 i := dq_step qsX10_keepCounted_0 rfl rfl
theorem qsX10_keepCounted_2 : ∀ i, dqNth qtX10_keepCounted_0 (32 + i) = dqNth qtX10_keepCounted_2 i := dq_step qsX10_keepCounted_1 rfl rfl
theorem qX10_keepCounted_0 (i b : Nat) (h : dqNth qaX10_keepCounted_0 i = some b) : DqBy cX10_keepCounted (0 + i) b := dqBy_of qeX10_keepCounted ((qsX10_keepCounted_0 i).trans (dq_in h))
theorem qX10_keepCounted_1 (i b : Nat) (h : dqNth qaX10_keepCounted_1 i = some b) : DqBy cX10_keepCounted (16 + i) b := dqBy_of qeX10_keepCounted ((qsX10_keepCounted_1 i).trans (dq_in h))
theorem qX10_keepCounted_2 (i b : Nat) (h : dqNth qaX10_keepCounted_2 i = some b) : DqBy cX10_keepCounted (32 + i) b := dqBy_of qeX10_keepCounted ((qsX10_keepCounted_2 i).trans (dq_in h))
theorem dX10_keepCounted_0 : decode cX10_keepCounted 0 = .ok (.aload_n 0, 1) := @dq_o42 cX10_keepCounted 0 (qX10_keepCounted_0 0 42 rfl)
theorem dX10_keepCounted_1 : decode cX10_keepCounted 1 = .ok (.getfield 98, 3) := @dq_o180 cX10_keepCounted 1 0 98 (qX10_keepCounted_0 1 180 rfl) (qX10_keepCounted_0 2 0 rfl) (qX10_keepCounted_0 3 98 rfl)
theorem dX10_keepCounted_4 : decode cX10_keepCounted 4 = .ok (.ldc2_w 380, 3) := @dq_o20 cX10_keepCounted 4 1 124 (qX10_keepCounted_0 4 20 rfl) (qX10_keepCounted_0 5 1 rfl) (qX10_keepCounted_0 6 124 rfl)
theorem dX10_keepCounted_7 : decode cX10_keepCounted 7 = .ok (.invokestatic 326, 3) := @dq_o184 cX10_keepCounted 7 1 70 (qX10_keepCounted_0 7 184 rfl) (qX10_keepCounted_0 8 1 rfl) (qX10_keepCounted_0 9 70 rfl)
theorem dX10_keepCounted_10 : decode cX10_keepCounted 10 = .ok (.ifCond .ne 18, 3) := @dq_o154 cX10_keepCounted 10 0 18 (qX10_keepCounted_0 10 154 rfl) (qX10_keepCounted_0 11 0 rfl) (qX10_keepCounted_0 12 18 rfl)
theorem dX10_keepCounted_13 : decode cX10_keepCounted 13 = .ok (.aload_n 0, 1) := @dq_o42 cX10_keepCounted 13 (qX10_keepCounted_0 13 42 rfl)
theorem dX10_keepCounted_14 : decode cX10_keepCounted 14 = .ok (.getfield 12, 3) := @dq_o180 cX10_keepCounted 14 0 12 (qX10_keepCounted_0 14 180 rfl) (qX10_keepCounted_0 15 0 rfl) (qX10_keepCounted_1 0 12 rfl)
theorem dX10_keepCounted_17 : decode cX10_keepCounted 17 = .ok (.getfield 267, 3) := @dq_o180 cX10_keepCounted 17 1 11 (qX10_keepCounted_1 1 180 rfl) (qX10_keepCounted_1 2 1 rfl) (qX10_keepCounted_1 3 11 rfl)
theorem dX10_keepCounted_20 : decode cX10_keepCounted 20 = .ok (.iconst 0, 1) := @dq_o3 cX10_keepCounted 20 (qX10_keepCounted_1 4 3 rfl)
theorem dX10_keepCounted_21 : decode cX10_keepCounted 21 = .ok (.dup2, 1) := @dq_o92 cX10_keepCounted 21 (qX10_keepCounted_1 5 92 rfl)
theorem dX10_keepCounted_22 : decode cX10_keepCounted 22 = .ok (.iaload, 1) := @dq_o46 cX10_keepCounted 22 (qX10_keepCounted_1 6 46 rfl)
theorem dX10_keepCounted_23 : decode cX10_keepCounted 23 = .ok (.iconst 1, 1) := @dq_o4 cX10_keepCounted 23 (qX10_keepCounted_1 7 4 rfl)
theorem dX10_keepCounted_24 : decode cX10_keepCounted 24 = .ok (.iadd, 1) := @dq_o96 cX10_keepCounted 24 (qX10_keepCounted_1 8 96 rfl)
theorem dX10_keepCounted_25 : decode cX10_keepCounted 25 = .ok (.iastore, 1) := @dq_o79 cX10_keepCounted 25 (qX10_keepCounted_1 9 79 rfl)
theorem dX10_keepCounted_26 : decode cX10_keepCounted 26 = .ok (.iconst 0, 1) := @dq_o3 cX10_keepCounted 26 (qX10_keepCounted_1 10 3 rfl)
theorem dX10_keepCounted_27 : decode cX10_keepCounted 27 = .ok (.ireturn, 1) := @dq_o172 cX10_keepCounted 27 (qX10_keepCounted_1 11 172 rfl)
theorem dX10_keepCounted_28 : decode cX10_keepCounted 28 = .ok (.aload_n 0, 1) := @dq_o42 cX10_keepCounted 28 (qX10_keepCounted_1 12 42 rfl)
theorem dX10_keepCounted_29 : decode cX10_keepCounted 29 = .ok (.iload_n 1, 1) := @dq_o27 cX10_keepCounted 29 (qX10_keepCounted_1 13 27 rfl)
theorem dX10_keepCounted_30 : decode cX10_keepCounted 30 = .ok (.invokevirtual 242, 3) := @dq_o182 cX10_keepCounted 30 0 242 (qX10_keepCounted_1 14 182 rfl) (qX10_keepCounted_1 15 0 rfl) (qX10_keepCounted_2 0 242 rfl)
theorem dX10_keepCounted_33 : decode cX10_keepCounted 33 = .ok (.ireturn, 1) := @dq_o172 cX10_keepCounted 33 (qX10_keepCounted_2 1 172 rfl)
abbrev qaX10_feedNumber_0 : List Nat := [16, 24, 61, 28, 155, 0, 45, 42, 180, 0, 38, 17, 0, 200, 162, 0]
abbrev qaX10_feedNumber_1 : List Nat := [35, 42, 180, 0, 34, 42, 180, 0, 38, 27, 28, 122, 17, 0, 255, 126]
abbrev qaX10_feedNumber_2 : List Nat := [79, 42, 89, 180, 0, 38, 4, 96, 181, 0, 38, 132, 2, 248, 167, 255]
abbrev qaX10_feedNumber_3 : List Nat := [213, 177]
def qtX10_feedNumber_4 : List Nat := []
def qtX10_feedNumber_3 : List Nat := qaX10_feedNumber_3 ++ qtX10_feedNumber_4
def qtX10_feedNumber_2 : List Nat := qaX10_feedNumber_2 ++ qtX10_feedNumber_3
def qtX10_feedNumber_1 : List Nat := qaX10_feedNumber_1 ++ qtX10_feedNumber_2
def qtX10_feedNumber_0 : List Nat := qaX10_feedNumber_0 ++ qtX10_feedNumber_1
theorem qeX10_feedNumber : cX10_feedNumber.data.toList.map UInt8.toNat = qtX10_feedNumber_0 := by decide +kernel
theorem qsX10_feedNumber_0 : ∀ i, dqNth qtX10_feedNumber_0 (0 + i) = dqNth qtX10_feedNumber_0 i := fun i => by rw [Nat.zero_add]
theorem qsX10_feedNumber_1 : ∀ i, dqNth qtX10_feedNumber_0 (16 + i) = dqNth qtX10_feedNumber_1 i := dq_step qsX10_feedNumber_0 rfl rfl
theorem qsX10_feedNumber_2 : ∀ i, dqNth qtX10_feedNumber_0 (32 + i) = dqNth qtX10_feedNumber_2 i := dq_step qsX10_feedNumber_1 rfl rfl
theorem qsX10_feedNumber_3 : ∀ i, dqNth qtX10_feedNumber_0 (48 + i) = dqNth qtX10_feedNumber_3 i := dq_step qsX10_feedNumber_2 rfl rfl
theorem qX10_feedNumber_0 (i b : Nat) (h : dqNth qaX10_feedNumber_0 i = some b) : DqBy cX10_feedNumber (0 + i) b := dqBy_of qeX10_feedNumber ((qsX10_feedNumber_0 i).trans (dq_in h))
theorem qX10_feedNumber_1 (i b : Nat) (h : dqNth qaX10_feedNumber_1 i = some b) : DqBy cX10_feedNumber (16 + i) b := dqBy_of qeX10_feedNumber ((qsX10_feedNumber_1 i).trans (dq_in h))
theorem qX10_feedNumber_2 (i b : Nat) (h : dqNth qaX10_feedNumber_2 i = some b) : DqBy cX10_feedNumber (32 + i) b := dqBy_of qeX10_feedNumber ((qsX10_feedNumber_2 i).trans (dq_in h))
theorem qX10_feedNumber_3 (i b : Nat) (h : dqNth qaX10_feedNumber_3 i = some b) : DqBy cX10_feedNumber (48 + i) b := dqBy_of qeX10_feedNumber ((qsX10_feedNumber_3 i).trans (dq_in h))
theorem dX10_feedNumber_0 : decode cX10_feedNumber 0 = .ok (.bipush 24, 2) := @dq_o16 cX10_feedNumber 0 24 (qX10_feedNumber_0 0 16 rfl) (qX10_feedNumber_0 1 24 rfl)
theorem dX10_feedNumber_2 : decode cX10_feedNumber 2 = .ok (.istore_n 2, 1) := @dq_o61 cX10_feedNumber 2 (qX10_feedNumber_0 2 61 rfl)
theorem dX10_feedNumber_3 : decode cX10_feedNumber 3 = .ok (.iload_n 2, 1) := @dq_o28 cX10_feedNumber 3 (qX10_feedNumber_0 3 28 rfl)
theorem dX10_feedNumber_4 : decode cX10_feedNumber 4 = .ok (.ifCond .lt 45, 3) := @dq_o155 cX10_feedNumber 4 0 45 (qX10_feedNumber_0 4 155 rfl) (qX10_feedNumber_0 5 0 rfl) (qX10_feedNumber_0 6 45 rfl)
theorem dX10_feedNumber_7 : decode cX10_feedNumber 7 = .ok (.aload_n 0, 1) := @dq_o42 cX10_feedNumber 7 (qX10_feedNumber_0 7 42 rfl)
theorem dX10_feedNumber_8 : decode cX10_feedNumber 8 = .ok (.getfield 38, 3) := @dq_o180 cX10_feedNumber 8 0 38 (qX10_feedNumber_0 8 180 rfl) (qX10_feedNumber_0 9 0 rfl) (qX10_feedNumber_0 10 38 rfl)
theorem dX10_feedNumber_11 : decode cX10_feedNumber 11 = .ok (.sipush 200, 3) := @dq_o17 cX10_feedNumber 11 0 200 (qX10_feedNumber_0 11 17 rfl) (qX10_feedNumber_0 12 0 rfl) (qX10_feedNumber_0 13 200 rfl)
theorem dX10_feedNumber_14 : decode cX10_feedNumber 14 = .ok (.if_icmp .ge 35, 3) := @dq_o162 cX10_feedNumber 14 0 35 (qX10_feedNumber_0 14 162 rfl) (qX10_feedNumber_0 15 0 rfl) (qX10_feedNumber_1 0 35 rfl)
theorem dX10_feedNumber_17 : decode cX10_feedNumber 17 = .ok (.aload_n 0, 1) := @dq_o42 cX10_feedNumber 17 (qX10_feedNumber_1 1 42 rfl)
theorem dX10_feedNumber_18 : decode cX10_feedNumber 18 = .ok (.getfield 34, 3) := @dq_o180 cX10_feedNumber 18 0 34 (qX10_feedNumber_1 2 180 rfl) (qX10_feedNumber_1 3 0 rfl) (qX10_feedNumber_1 4 34 rfl)
theorem dX10_feedNumber_21 : decode cX10_feedNumber 21 = .ok (.aload_n 0, 1) := @dq_o42 cX10_feedNumber 21 (qX10_feedNumber_1 5 42 rfl)
theorem dX10_feedNumber_22 : decode cX10_feedNumber 22 = .ok (.getfield 38, 3) := @dq_o180 cX10_feedNumber 22 0 38 (qX10_feedNumber_1 6 180 rfl) (qX10_feedNumber_1 7 0 rfl) (qX10_feedNumber_1 8 38 rfl)
theorem dX10_feedNumber_25 : decode cX10_feedNumber 25 = .ok (.iload_n 1, 1) := @dq_o27 cX10_feedNumber 25 (qX10_feedNumber_1 9 27 rfl)
theorem dX10_feedNumber_26 : decode cX10_feedNumber 26 = .ok (.iload_n 2, 1) := @dq_o28 cX10_feedNumber 26 (qX10_feedNumber_1 10 28 rfl)
theorem dX10_feedNumber_27 : decode cX10_feedNumber 27 = .ok (.ishr, 1) := @dq_o122 cX10_feedNumber 27 (qX10_feedNumber_1 11 122 rfl)
theorem dX10_feedNumber_28 : decode cX10_feedNumber 28 = .ok (.sipush 255, 3) := @dq_o17 cX10_feedNumber 28 0 255 (qX10_feedNumber_1 12 17 rfl) (qX10_feedNumber_1 13 0 rfl) (qX10_feedNumber_1 14 255 rfl)
theorem dX10_feedNumber_31 : decode cX10_feedNumber 31 = .ok (.iand, 1) := @dq_o126 cX10_feedNumber 31 (qX10_feedNumber_1 15 126 rfl)
theorem dX10_feedNumber_32 : decode cX10_feedNumber 32 = .ok (.iastore, 1) := @dq_o79 cX10_feedNumber 32 (qX10_feedNumber_2 0 79 rfl)
theorem dX10_feedNumber_33 : decode cX10_feedNumber 33 = .ok (.aload_n 0, 1) := @dq_o42 cX10_feedNumber 33 (qX10_feedNumber_2 1 42 rfl)
theorem dX10_feedNumber_34 : decode cX10_feedNumber 34 = .ok (.dup, 1) := @dq_o89 cX10_feedNumber 34 (qX10_feedNumber_2 2 89 rfl)
theorem dX10_feedNumber_35 : decode cX10_feedNumber 35 = .ok (.getfield 38, 3) := @dq_o180 cX10_feedNumber 35 0 38 (qX10_feedNumber_2 3 180 rfl) (qX10_feedNumber_2 4 0 rfl) (qX10_feedNumber_2 5 38 rfl)
theorem dX10_feedNumber_38 : decode cX10_feedNumber 38 = .ok (.iconst 1, 1) := @dq_o4 cX10_feedNumber 38 (qX10_feedNumber_2 6 4 rfl)
theorem dX10_feedNumber_39 : decode cX10_feedNumber 39 = .ok (.iadd, 1) := @dq_o96 cX10_feedNumber 39 (qX10_feedNumber_2 7 96 rfl)
theorem dX10_feedNumber_40 : decode cX10_feedNumber 40 = .ok (.putfield 38, 3) := @dq_o181 cX10_feedNumber 40 0 38 (qX10_feedNumber_2 8 181 rfl) (qX10_feedNumber_2 9 0 rfl) (qX10_feedNumber_2 10 38 rfl)
theorem dX10_feedNumber_43 : decode cX10_feedNumber 43 = .ok (.iinc 2 (-8), 3) := @dq_o132 cX10_feedNumber 43 2 248 (qX10_feedNumber_2 11 132 rfl) (qX10_feedNumber_2 12 2 rfl) (qX10_feedNumber_2 13 248 rfl)
theorem dX10_feedNumber_46 : decode cX10_feedNumber 46 = .ok (.goto (-43), 3) := @dq_o167 cX10_feedNumber 46 255 213 (qX10_feedNumber_2 14 167 rfl) (qX10_feedNumber_2 15 255 rfl) (qX10_feedNumber_3 0 213 rfl)
theorem dX10_feedNumber_49 : decode cX10_feedNumber 49 = .ok (.return_, 1) := @dq_o177 cX10_feedNumber 49 (qX10_feedNumber_3 1 177 rfl)
abbrev qaX10_layerOf_0 : List Nat := [3, 61, 28, 42, 180, 0, 12, 180, 0, 105, 180, 0, 178, 162, 0, 30]
abbrev qaX10_layerOf_1 : List Nat := [43, 28, 47, 9, 148, 153, 0, 16, 42, 180, 0, 12, 180, 0, 105, 180]
abbrev qaX10_layerOf_2 : List Nat := [0, 152, 28, 46, 172, 132, 2, 1, 167, 255, 218, 42, 180, 0, 12, 180]
abbrev qaX10_layerOf_3 : List Nat := [0, 105, 182, 1, 101, 4, 96, 172]
def qtX10_layerOf_4 : List Nat := []
def qtX10_layerOf_3 : List Nat := qaX10_layerOf_3 ++ qtX10_layerOf_4
def qtX10_layerOf_2 : List Nat := qaX10_layerOf_2 ++ qtX10_layerOf_3
def qtX10_layerOf_1 : List Nat := qaX10_layerOf_1 ++ qtX10_layerOf_2
def qtX10_layerOf_0 : List Nat := qaX10_layerOf_0 ++ qtX10_layerOf_1
theorem qeX10_layerOf : cX10_layerOf.data.toList.map UInt8.toNat = qtX10_layerOf_0 := by decide +kernel
theorem qsX10_layerOf_0 : ∀ i, dqNth qtX10_layerOf_0 (0 + i) = dqNth qtX10_layerOf_0 i := fun i => by rw [Nat.zero_add]
theorem qsX10_layerOf_1 : ∀ i, dqNth qtX10_layerOf_0 (16 + i) = dqNth qtX10_layerOf_1 i := dq_step qsX10_layerOf_0 rfl rfl
theorem qsX10_layerOf_2 : ∀ i, dqNth qtX10_layerOf_0 (32 + i) = dqNth qtX10_layerOf_2 i := dq_step qsX10_layerOf_1 rfl rfl
theorem qsX10_layerOf_3 : ∀ i, dqNth qtX10_layerOf_0 (48 + i) = dqNth qtX10_layerOf_3 i := dq_step qsX10_layerOf_2 rfl rfl
theorem qX10_layerOf_0 (i b : Nat) (h : dqNth qaX10_layerOf_0 i = some b) : DqBy cX10_layerOf (0 + i) b := dqBy_of qeX10_layerOf ((qsX10_layerOf_0 i).trans (dq_in h))
theorem qX10_layerOf_1 (i b : Nat) (h : dqNth qaX10_layerOf_1 i = some b) : DqBy cX10_layerOf (16 + i) b := dqBy_of qeX10_layerOf ((qsX10_layerOf_1 i).trans (dq_in h))
theorem qX10_layerOf_2 (i b : Nat) (h : dqNth qaX10_layerOf_2 i = some b) : DqBy cX10_layerOf (32 + i) b := dqBy_of qeX10_layerOf ((qsX10_layerOf_2 i).trans (dq_in h))
theorem qX10_layerOf_3 (i b : Nat) (h : dqNth qaX10_layerOf_3 i = some b) : DqBy cX10_layerOf (48 + i) b := dqBy_of qeX10_layerOf ((qsX10_layerOf_3 i).trans (dq_in h))
theorem dX10_layerOf_0 : decode cX10_layerOf 0 = .ok (.iconst 0, 1) := @dq_o3 cX10_layerOf 0 (qX10_layerOf_0 0 3 rfl)
theorem dX10_layerOf_1 : decode cX10_layerOf 1 = .ok (.istore_n 2, 1) := @dq_o61 cX10_layerOf 1 (qX10_layerOf_0 1 61 rfl)
theorem dX10_layerOf_2 : decode cX10_layerOf 2 = .ok (.iload_n 2, 1) := @dq_o28 cX10_layerOf 2 (qX10_layerOf_0 2 28 rfl)
theorem dX10_layerOf_3 : decode cX10_layerOf 3 = .ok (.aload_n 0, 1) := @dq_o42 cX10_layerOf 3 (qX10_layerOf_0 3 42 rfl)
theorem dX10_layerOf_4 : decode cX10_layerOf 4 = .ok (.getfield 12, 3) := @dq_o180 cX10_layerOf 4 0 12 (qX10_layerOf_0 4 180 rfl) (qX10_layerOf_0 5 0 rfl) (qX10_layerOf_0 6 12 rfl)
theorem dX10_layerOf_7 : decode cX10_layerOf 7 = .ok (.getfield 105, 3) := @dq_o180 cX10_layerOf 7 0 105 (qX10_layerOf_0 7 180 rfl) (qX10_layerOf_0 8 0 rfl) (qX10_layerOf_0 9 105 rfl)
theorem dX10_layerOf_10 : decode cX10_layerOf 10 = .ok (.getfield 178, 3) := @dq_o180 cX10_layerOf 10 0 178 (qX10_layerOf_0 10 180 rfl) (qX10_layerOf_0 11 0 rfl) (qX10_layerOf_0 12 178 rfl)
theorem dX10_layerOf_13 : decode cX10_layerOf 13 = .ok (.if_icmp .ge 30, 3) := @dq_o162 cX10_layerOf 13 0 30 (qX10_layerOf_0 13 162 rfl) (qX10_layerOf_0 14 0 rfl) (qX10_layerOf_0 15 30 rfl)
theorem dX10_layerOf_16 : decode cX10_layerOf 16 = .ok (.aload_n 1, 1) := @dq_o43 cX10_layerOf 16 (qX10_layerOf_1 0 43 rfl)
theorem dX10_layerOf_17 : decode cX10_layerOf 17 = .ok (.iload_n 2, 1) := @dq_o28 cX10_layerOf 17 (qX10_layerOf_1 1 28 rfl)
theorem dX10_layerOf_18 : decode cX10_layerOf 18 = .ok (.laload, 1) := @dq_o47 cX10_layerOf 18 (qX10_layerOf_1 2 47 rfl)
theorem dX10_layerOf_19 : decode cX10_layerOf 19 = .ok (.lconst 0, 1) := @dq_o9 cX10_layerOf 19 (qX10_layerOf_1 3 9 rfl)
theorem dX10_layerOf_20 : decode cX10_layerOf 20 = .ok (.lcmp, 1) := @dq_o148 cX10_layerOf 20 (qX10_layerOf_1 4 148 rfl)
theorem dX10_layerOf_21 : decode cX10_layerOf 21 = .ok (.ifCond .eq 16, 3) := @dq_o153 cX10_layerOf 21 0 16 (qX10_layerOf_1 5 153 rfl) (qX10_layerOf_1 6 0 rfl) (qX10_layerOf_1 7 16 rfl)
theorem dX10_layerOf_24 : decode cX10_layerOf 24 = .ok (.aload_n 0, 1) := @dq_o42 cX10_layerOf 24 (qX10_layerOf_1 8 42 rfl)
theorem dX10_layerOf_25 : decode cX10_layerOf 25 = .ok (.getfield 12, 3) := @dq_o180 cX10_layerOf 25 0 12 (qX10_layerOf_1 9 180 rfl) (qX10_layerOf_1 10 0 rfl) (qX10_layerOf_1 11 12 rfl)
theorem dX10_layerOf_28 : decode cX10_layerOf 28 = .ok (.getfield 105, 3) := @dq_o180 cX10_layerOf 28 0 105 (qX10_layerOf_1 12 180 rfl) (qX10_layerOf_1 13 0 rfl) (qX10_layerOf_1 14 105 rfl)
theorem dX10_layerOf_31 : decode cX10_layerOf 31 = .ok (.getfield 152, 3) := @dq_o180 cX10_layerOf 31 0 152 (qX10_layerOf_1 15 180 rfl) (qX10_layerOf_2 0 0 rfl) (qX10_layerOf_2 1 152 rfl)
theorem dX10_layerOf_34 : decode cX10_layerOf 34 = .ok (.iload_n 2, 1) := @dq_o28 cX10_layerOf 34 (qX10_layerOf_2 2 28 rfl)
theorem dX10_layerOf_35 : decode cX10_layerOf 35 = .ok (.iaload, 1) := @dq_o46 cX10_layerOf 35 (qX10_layerOf_2 3 46 rfl)
theorem dX10_layerOf_36 : decode cX10_layerOf 36 = .ok (.ireturn, 1) := @dq_o172 cX10_layerOf 36 (qX10_layerOf_2 4 172 rfl)
theorem dX10_layerOf_37 : decode cX10_layerOf 37 = .ok (.iinc 2 1, 3) := @dq_o132 cX10_layerOf 37 2 1 (qX10_layerOf_2 5 132 rfl) (qX10_layerOf_2 6 2 rfl) (qX10_layerOf_2 7 1 rfl)
theorem dX10_layerOf_40 : decode cX10_layerOf 40 = .ok (.goto (-38), 3) := @dq_o167 cX10_layerOf 40 255 218 (qX10_layerOf_2 8 167 rfl) (qX10_layerOf_2 9 255 rfl) (qX10_layerOf_2 10 218 rfl)
theorem dX10_layerOf_43 : decode cX10_layerOf 43 = .ok (.aload_n 0, 1) := @dq_o42 cX10_layerOf 43 (qX10_layerOf_2 11 42 rfl)
theorem dX10_layerOf_44 : decode cX10_layerOf 44 = .ok (.getfield 12, 3) := @dq_o180 cX10_layerOf 44 0 12 (qX10_layerOf_2 12 180 rfl) (qX10_layerOf_2 13 0 rfl) (qX10_layerOf_2 14 12 rfl)
theorem dX10_layerOf_47 : decode cX10_layerOf 47 = .ok (.getfield 105, 3) := @dq_o180 cX10_layerOf 47 0 105 (qX10_layerOf_2 15 180 rfl) (qX10_layerOf_3 0 0 rfl) (qX10_layerOf_3 1 105 rfl)
theorem dX10_layerOf_50 : decode cX10_layerOf 50 = .ok (.invokevirtual 357, 3) := @dq_o182 cX10_layerOf 50 1 101 (qX10_layerOf_3 2 182 rfl) (qX10_layerOf_3 3 1 rfl) (qX10_layerOf_3 4 101 rfl)
theorem dX10_layerOf_53 : decode cX10_layerOf 53 = .ok (.iconst 1, 1) := @dq_o4 cX10_layerOf 53 (qX10_layerOf_3 5 4 rfl)
theorem dX10_layerOf_54 : decode cX10_layerOf 54 = .ok (.iadd, 1) := @dq_o96 cX10_layerOf 54 (qX10_layerOf_3 6 96 rfl)
theorem dX10_layerOf_55 : decode cX10_layerOf 55 = .ok (.ireturn, 1) := @dq_o172 cX10_layerOf 55 (qX10_layerOf_3 7 172 rfl)
abbrev qaX10_commutesWithAll_0 : List Nat := [3, 61, 28, 42, 180, 0, 12, 180, 0, 105, 180, 0, 178, 162, 0, 35]
abbrev qaX10_commutesWithAll_1 : List Nat := [42, 180, 0, 102, 28, 10, 184, 1, 126, 42, 180, 0, 62, 43, 42, 180]
abbrev qaX10_commutesWithAll_2 : List Nat := [0, 102, 182, 1, 60, 154, 0, 5, 3, 172, 132, 2, 1, 167, 255, 213]
abbrev qaX10_commutesWithAll_3 : List Nat := [4, 172]
def qtX10_commutesWithAll_4 : List Nat := []
def qtX10_commutesWithAll_3 : List Nat := qaX10_commutesWithAll_3 ++ qtX10_commutesWithAll_4
def qtX10_commutesWithAll_2 : List Nat := qaX10_commutesWithAll_2 ++ qtX10_commutesWithAll_3
def qtX10_commutesWithAll_1 : List Nat := qaX10_commutesWithAll_1 ++ qtX10_commutesWithAll_2
def qtX10_commutesWithAll_0 : List Nat := qaX10_commutesWithAll_0 ++ qtX10_commutesWithAll_1
theorem qeX10_commutesWithAll : cX10_commutesWithAll.data.toList.map UInt8.toNat = qtX10_commutesWithAll_0 := by decide +kernel
theorem qsX10_commutesWithAll_0 : ∀ i, dqNth qtX10_commutesWithAll_0 (0 + i) = dqNth qtX10_commutesWithAll_0 i := fun i => by rw [Nat.zero_add]
theorem qsX10_commutesWithAll_1 : ∀ i, dqNth qtX10_commutesWithAll_0 (16 + i) = dqNth qtX10_commutesWithAll_1 i := dq_step qsX10_commutesWithAll_0 rfl rfl
theorem qsX10_commutesWithAll_2 : ∀ i, dqNth qtX10_commutesWithAll_0 (32 + i) = dqNth qtX10_commutesWithAll_2 i := dq_step qsX10_commutesWithAll_1 rfl rfl
theorem qsX10_commutesWithAll_3 : ∀ i, dqNth qtX10_commutesWithAll_0 (48 + i) = dqNth qtX10_commutesWithAll_3 i := dq_step qsX10_commutesWithAll_2 rfl rfl
theorem qX10_commutesWithAll_0 (i b : Nat) (h : dqNth qaX10_commutesWithAll_0 i = some b) : DqBy cX10_commutesWithAll (0 + i) b := dqBy_of qeX10_commutesWithAll ((qsX10_commutesWithAll_0 i).trans (dq_in h))
theorem qX10_commutesWithAll_1 (i b : Nat) (h : dqNth qaX10_commutesWithAll_1 i = some b) : DqBy cX10_commutesWithAll (16 + i) b := dqBy_of qeX10_commutesWithAll ((qsX10_commutesWithAll_1 i).trans (dq_in h))
theorem qX10_commutesWithAll_2 (i b : Nat) (h : dqNth qaX10_commutesWithAll_2 i = some b) : DqBy cX10_commutesWithAll (32 + i) b := dqBy_of qeX10_commutesWithAll ((qsX10_commutesWithAll_2 i).trans (dq_in h))
theorem qX10_commutesWithAll_3 (i b : Nat) (h : dqNth qaX10_commutesWithAll_3 i = some b) : DqBy cX10_commutesWithAll (48 + i) b := dqBy_of qeX10_commutesWithAll ((qsX10_commutesWithAll_3 i).trans (dq_in h))
theorem dX10_commutesWithAll_0 : decode cX10_commutesWithAll 0 = .ok (.iconst 0, 1) := @dq_o3 cX10_commutesWithAll 0 (qX10_commutesWithAll_0 0 3 rfl)
theorem dX10_commutesWithAll_1 : decode cX10_commutesWithAll 1 = .ok (.istore_n 2, 1) := @dq_o61 cX10_commutesWithAll 1 (qX10_commutesWithAll_0 1 61 rfl)
theorem dX10_commutesWithAll_2 : decode cX10_commutesWithAll 2 = .ok (.iload_n 2, 1) := @dq_o28 cX10_commutesWithAll 2 (qX10_commutesWithAll_0 2 28 rfl)
theorem dX10_commutesWithAll_3 : decode cX10_commutesWithAll 3 = .ok (.aload_n 0, 1) := @dq_o42 cX10_commutesWithAll 3 (qX10_commutesWithAll_0 3 42 rfl)
theorem dX10_commutesWithAll_4 : decode cX10_commutesWithAll 4 = .ok (.getfield 12, 3) := @dq_o180 cX10_commutesWithAll 4 0 12 (qX10_commutesWithAll_0 4 180 rfl) (qX10_commutesWithAll_0 5 0 rfl) (qX10_commutesWithAll_0 6 12 rfl)
theorem dX10_commutesWithAll_7 : decode cX10_commutesWithAll 7 = .ok (.getfield 105, 3) := @dq_o180 cX10_commutesWithAll 7 0 105 (qX10_commutesWithAll_0 7 180 rfl) (qX10_commutesWithAll_0 8 0 rfl) (qX10_commutesWithAll_0 9 105 rfl)
theorem dX10_commutesWithAll_10 : decode cX10_commutesWithAll 10 = .ok (.getfield 178, 3) := @dq_o180 cX10_commutesWithAll 10 0 178 (qX10_commutesWithAll_0 10 180 rfl) (qX10_commutesWithAll_0 11 0 rfl) (qX10_commutesWithAll_0 12 178 rfl)
theorem dX10_commutesWithAll_13 : decode cX10_commutesWithAll 13 = .ok (.if_icmp .ge 35, 3) := @dq_o162 cX10_commutesWithAll 13 0 35 (qX10_commutesWithAll_0 13 162 rfl) (qX10_commutesWithAll_0 14 0 rfl) (qX10_commutesWithAll_0 15 35 rfl)
theorem dX10_commutesWithAll_16 : decode cX10_commutesWithAll 16 = .ok (.aload_n 0, 1) := @dq_o42 cX10_commutesWithAll 16 (qX10_commutesWithAll_1 0 42 rfl)
theorem dX10_commutesWithAll_17 : decode cX10_commutesWithAll 17 = .ok (.getfield 102, 3) := @dq_o180 cX10_commutesWithAll 17 0 102 (qX10_commutesWithAll_1 1 180 rfl) (qX10_commutesWithAll_1 2 0 rfl) (qX10_commutesWithAll_1 3 102 rfl)
theorem dX10_commutesWithAll_20 : decode cX10_commutesWithAll 20 = .ok (.iload_n 2, 1) := @dq_o28 cX10_commutesWithAll 20 (qX10_commutesWithAll_1 4 28 rfl)
theorem dX10_commutesWithAll_21 : decode cX10_commutesWithAll 21 = .ok (.lconst 1, 1) := @dq_o10 cX10_commutesWithAll 21 (qX10_commutesWithAll_1 5 10 rfl)
theorem dX10_commutesWithAll_22 : decode cX10_commutesWithAll 22 = .ok (.invokestatic 382, 3) := @dq_o184 cX10_commutesWithAll 22 1 126 (qX10_commutesWithAll_1 6 184 rfl) (qX10_commutesWithAll_1 7 1 rfl) (qX10_commutesWithAll_1 8 126 rfl)
theorem dX10_commutesWithAll_25 : decode cX10_commutesWithAll 25 = .ok (.aload_n 0, 1) := @dq_o42 cX10_commutesWithAll 25 (qX10_commutesWithAll_1 9 42 rfl)
theorem dX10_commutesWithAll_26 : decode cX10_commutesWithAll 26 = .ok (.getfield 62, 3) := @dq_o180 cX10_commutesWithAll 26 0 62 (qX10_commutesWithAll_1 10 180 rfl) (qX10_commutesWithAll_1 11 0 rfl) (qX10_commutesWithAll_1 12 62 rfl)
theorem dX10_commutesWithAll_29 : decode cX10_commutesWithAll 29 = .ok (.aload_n 1, 1) := @dq_o43 cX10_commutesWithAll 29 (qX10_commutesWithAll_1 13 43 rfl)
theorem dX10_commutesWithAll_30 : decode cX10_commutesWithAll 30 = .ok (.aload_n 0, 1) := @dq_o42 cX10_commutesWithAll 30 (qX10_commutesWithAll_1 14 42 rfl)
theorem dX10_commutesWithAll_31 : decode cX10_commutesWithAll 31 = .ok (.getfield 102, 3) := @dq_o180 cX10_commutesWithAll 31 0 102 (qX10_commutesWithAll_1 15 180 rfl) (qX10_commutesWithAll_2 0 0 rfl) (qX10_commutesWithAll_2 1 102 rfl)
theorem dX10_commutesWithAll_34 : decode cX10_commutesWithAll 34 = .ok (.invokevirtual 316, 3) := @dq_o182 cX10_commutesWithAll 34 1 60 (qX10_commutesWithAll_2 2 182 rfl) (qX10_commutesWithAll_2 3 1 rfl) (qX10_commutesWithAll_2 4 60 rfl)
theorem dX10_commutesWithAll_37 : decode cX10_commutesWithAll 37 = .ok (.ifCond .ne 5, 3) := @dq_o154 cX10_commutesWithAll 37 0 5 (qX10_commutesWithAll_2 5 154 rfl) (qX10_commutesWithAll_2 6 0 rfl) (qX10_commutesWithAll_2 7 5 rfl)
theorem dX10_commutesWithAll_40 : decode cX10_commutesWithAll 40 = .ok (.iconst 0, 1) := @dq_o3 cX10_commutesWithAll 40 (qX10_commutesWithAll_2 8 3 rfl)
theorem dX10_commutesWithAll_41 : decode cX10_commutesWithAll 41 = .ok (.ireturn, 1) := @dq_o172 cX10_commutesWithAll 41 (qX10_commutesWithAll_2 9 172 rfl)
theorem dX10_commutesWithAll_42 : decode cX10_commutesWithAll 42 = .ok (.iinc 2 1, 3) := @dq_o132 cX10_commutesWithAll 42 2 1 (qX10_commutesWithAll_2 10 132 rfl) (qX10_commutesWithAll_2 11 2 rfl) (qX10_commutesWithAll_2 12 1 rfl)
theorem dX10_commutesWithAll_45 : decode cX10_commutesWithAll 45 = .ok (.goto (-43), 3) := @dq_o167 cX10_commutesWithAll 45 255 213 (qX10_commutesWithAll_2 13 167 rfl) (qX10_commutesWithAll_2 14 255 rfl) (qX10_commutesWithAll_2 15 213 rfl)
theorem dX10_commutesWithAll_48 : decode cX10_commutesWithAll 48 = .ok (.iconst 1, 1) := @dq_o4 cX10_commutesWithAll 48 (qX10_commutesWithAll_3 0 4 rfl)
theorem dX10_commutesWithAll_49 : decode cX10_commutesWithAll 49 = .ok (.ireturn, 1) := @dq_o172 cX10_commutesWithAll 49 (qX10_commutesWithAll_3 1 172 rfl)
abbrev qaX10_greatestRoot_0 : List Nat := [16, 99, 61, 28, 4, 164, 0, 28, 42, 180, 0, 62, 42, 180, 0, 98]
abbrev qaX10_greatestRoot_1 : List Nat := [43, 28, 133, 182, 0, 238, 153, 0, 5, 28, 172, 132, 2, 255, 167, 255]
abbrev qaX10_greatestRoot_2 : List Nat := [229, 4, 172]
def qtX10_greatestRoot_3 : List Nat := []
def qtX10_greatestRoot_2 : List Nat := qaX10_greatestRoot_2 ++ qtX10_greatestRoot_3
def qtX10_greatestRoot_1 : List Nat := qaX10_greatestRoot_1 ++ qtX10_greatestRoot_2
def qtX10_greatestRoot_0 : List Nat := qaX10_greatestRoot_0 ++ qtX10_greatestRoot_1
theorem qeX10_greatestRoot : cX10_greatestRoot.data.toList.map UInt8.toNat = qtX10_greatestRoot_0 := by decide +kernel
theorem qsX10_greatestRoot_0 : ∀ i, dqNth qtX10_greatestRoot_0 (0 + i) = dqNth qtX10_greatestRoot_0 i := fun i => by rw [Nat.zero_add]
theorem qsX10_greatestRoot_1 : ∀ i, dqNth qtX10_greatestRoot_0 (16 + i) = dqNth qtX10_greatestRoot_1 i := dq_step qsX10_greatestRoot_0 rfl rfl
theorem qsX10_greatestRoot_2 : ∀ i, dqNth qtX10_greatestRoot_0 (32 + i) = dqNth qtX10_greatestRoot_2 i := dq_step qsX10_greatestRoot_1 rfl rfl
theorem qX10_greatestRoot_0 (i b : Nat) (h : dqNth qaX10_greatestRoot_0 i = some b) : DqBy cX10_greatestRoot (0 + i) b := dqBy_of qeX10_greatestRoot ((qsX10_greatestRoot_0 i).trans (dq_in h))
theorem qX10_greatestRoot_1 (i b : Nat) (h : dqNth qaX10_greatestRoot_1 i = some b) : DqBy cX10_greatestRoot (16 + i) b := dqBy_of qeX10_greatestRoot ((qsX10_greatestRoot_1 i).trans (dq_in h))
theorem qX10_greatestRoot_2 (i b : Nat) (h : dqNth qaX10_greatestRoot_2 i = some b) : DqBy cX10_greatestRoot (32 + i) b := dqBy_of qeX10_greatestRoot ((qsX10_greatestRoot_2 i).trans (dq_in h))
theorem dX10_greatestRoot_0 : decode cX10_greatestRoot 0 = .ok (.bipush 99, 2) := @dq_o16 cX10_greatestRoot 0 99 (qX10_greatestRoot_0 0 16 rfl) (qX10_greatestRoot_0 1 99 rfl)
theorem dX10_greatestRoot_2 : decode cX10_greatestRoot 2 = .ok (.istore_n 2, 1) := @dq_o61 cX10_greatestRoot 2 (qX10_greatestRoot_0 2 61 rfl)
theorem dX10_greatestRoot_3 : decode cX10_greatestRoot 3 = .ok (.iload_n 2, 1) := @dq_o28 cX10_greatestRoot 3 (qX10_greatestRoot_0 3 28 rfl)
theorem dX10_greatestRoot_4 : decode cX10_greatestRoot 4 = .ok (.iconst 1, 1) := @dq_o4 cX10_greatestRoot 4 (qX10_greatestRoot_0 4 4 rfl)
theorem dX10_greatestRoot_5 : decode cX10_greatestRoot 5 = .ok (.if_icmp .le 28, 3) := @dq_o164 cX10_greatestRoot 5 0 28 (qX10_greatestRoot_0 5 164 rfl) (qX10_greatestRoot_0 6 0 rfl) (qX10_greatestRoot_0 7 28 rfl)
theorem dX10_greatestRoot_8 : decode cX10_greatestRoot 8 = .ok (.aload_n 0, 1) := @dq_o42 cX10_greatestRoot 8 (qX10_greatestRoot_0 8 42 rfl)
theorem dX10_greatestRoot_9 : decode cX10_greatestRoot 9 = .ok (.getfield 62, 3) := @dq_o180 cX10_greatestRoot 9 0 62 (qX10_greatestRoot_0 9 180 rfl) (qX10_greatestRoot_0 10 0 rfl) (qX10_greatestRoot_0 11 62 rfl)
theorem dX10_greatestRoot_12 : decode cX10_greatestRoot 12 = .ok (.aload_n 0, 1) := @dq_o42 cX10_greatestRoot 12 (qX10_greatestRoot_0 12 42 rfl)
theorem dX10_greatestRoot_13 : decode cX10_greatestRoot 13 = .ok (.getfield 98, 3) := @dq_o180 cX10_greatestRoot 13 0 98 (qX10_greatestRoot_0 13 180 rfl) (qX10_greatestRoot_0 14 0 rfl) (qX10_greatestRoot_0 15 98 rfl)
theorem dX10_greatestRoot_16 : decode cX10_greatestRoot 16 = .ok (.aload_n 1, 1) := @dq_o43 cX10_greatestRoot 16 (qX10_greatestRoot_1 0 43 rfl)
theorem dX10_greatestRoot_17 : decode cX10_greatestRoot 17 = .ok (.iload_n 2, 1) := @dq_o28 cX10_greatestRoot 17 (qX10_greatestRoot_1 1 28 rfl)
theorem dX10_greatestRoot_18 : decode cX10_greatestRoot 18 = .ok (.i2l, 1) := @dq_o133 cX10_greatestRoot 18 (qX10_greatestRoot_1 2 133 rfl)
theorem dX10_greatestRoot_19 : decode cX10_greatestRoot 19 = .ok (.invokevirtual 238, 3) := @dq_o182 cX10_greatestRoot 19 0 238 (qX10_greatestRoot_1 3 182 rfl) (qX10_greatestRoot_1 4 0 rfl) (qX10_greatestRoot_1 5 238 rfl)
theorem dX10_greatestRoot_22 : decode cX10_greatestRoot 22 = .ok (.ifCond .eq 5, 3) := @dq_o153 cX10_greatestRoot 22 0 5 (qX10_greatestRoot_1 6 153 rfl) (qX10_greatestRoot_1 7 0 rfl) (qX10_greatestRoot_1 8 5 rfl)
theorem dX10_greatestRoot_25 : decode cX10_greatestRoot 25 = .ok (.iload_n 2, 1) := @dq_o28 cX10_greatestRoot 25 (qX10_greatestRoot_1 9 28 rfl)
theorem dX10_greatestRoot_26 : decode cX10_greatestRoot 26 = .ok (.ireturn, 1) := @dq_o172 cX10_greatestRoot 26 (qX10_greatestRoot_1 10 172 rfl)
theorem dX10_greatestRoot_27 : decode cX10_greatestRoot 27 = .ok (.iinc 2 (-1), 3) := @dq_o132 cX10_greatestRoot 27 2 255 (qX10_greatestRoot_1 11 132 rfl) (qX10_greatestRoot_1 12 2 rfl) (qX10_greatestRoot_1 13 255 rfl)
theorem dX10_greatestRoot_30 : decode cX10_greatestRoot 30 = .ok (.goto (-27), 3) := @dq_o167 cX10_greatestRoot 30 255 229 (qX10_greatestRoot_1 14 167 rfl) (qX10_greatestRoot_1 15 255 rfl) (qX10_greatestRoot_2 0 229 rfl)
theorem dX10_greatestRoot_33 : decode cX10_greatestRoot 33 = .ok (.iconst 1, 1) := @dq_o4 cX10_greatestRoot 33 (qX10_greatestRoot_2 1 4 rfl)
theorem dX10_greatestRoot_34 : decode cX10_greatestRoot 34 = .ok (.ireturn, 1) := @dq_o172 cX10_greatestRoot 34 (qX10_greatestRoot_2 2 172 rfl)
abbrev qaX10_sameAs_0 : List Nat := [3, 61, 3, 62, 29, 16, 10, 162, 0, 31, 43, 42, 180, 0, 12, 180]
abbrev qaX10_sameAs_1 : List Nat := [0, 210, 29, 50, 184, 1, 87, 153, 0, 9, 28, 4, 29, 120, 128, 61]
abbrev qaX10_sameAs_2 : List Nat := [132, 3, 1, 167, 255, 225, 28, 172]
def qtX10_sameAs_3 : List Nat := []
def qtX10_sameAs_2 : List Nat := qaX10_sameAs_2 ++ qtX10_sameAs_3
def qtX10_sameAs_1 : List Nat := qaX10_sameAs_1 ++ qtX10_sameAs_2
def qtX10_sameAs_0 : List Nat := qaX10_sameAs_0 ++ qtX10_sameAs_1
theorem qeX10_sameAs : cX10_sameAs.data.toList.map UInt8.toNat = qtX10_sameAs_0 := by decide +kernel
theorem qsX10_sameAs_0 : ∀ i, dqNth qtX10_sameAs_0 (0 + i) = dqNth qtX10_sameAs_0 i := fun i => by rw [Nat.zero_add]
theorem qsX10_sameAs_1 : ∀ i, dqNth qtX10_sameAs_0 (16 + i) = dqNth qtX10_sameAs_1 i := dq_step qsX10_sameAs_0 rfl rfl
theorem qsX10_sameAs_2 : ∀ i, dqNth qtX10_sameAs_0 (32 + i) = dqNth qtX10_sameAs_2 i := dq_step qsX10_sameAs_1 rfl rfl
theorem qX10_sameAs_0 (i b : Nat) (h : dqNth qaX10_sameAs_0 i = some b) : DqBy cX10_sameAs (0 + i) b := dqBy_of qeX10_sameAs ((qsX10_sameAs_0 i).trans (dq_in h))
theorem qX10_sameAs_1 (i b : Nat) (h : dqNth qaX10_sameAs_1 i = some b) : DqBy cX10_sameAs (16 + i) b := dqBy_of qeX10_sameAs ((qsX10_sameAs_1 i).trans (dq_in h))
theorem qX10_sameAs_2 (i b : Nat) (h : dqNth qaX10_sameAs_2 i = some b) : DqBy cX10_sameAs (32 + i) b := dqBy_of qeX10_sameAs ((qsX10_sameAs_2 i).trans (dq_in h))
theorem dX10_sameAs_0 : decode cX10_sameAs 0 = .ok (.iconst 0, 1) := @dq_o3 cX10_sameAs 0 (qX10_sameAs_0 0 3 rfl)
theorem dX10_sameAs_1 : decode cX10_sameAs 1 = .ok (.istore_n 2, 1) := @dq_o61 cX10_sameAs 1 (qX10_sameAs_0 1 61 rfl)
theorem dX10_sameAs_2 : decode cX10_sameAs 2 = .ok (.iconst 0, 1) := @dq_o3 cX10_sameAs 2 (qX10_sameAs_0 2 3 rfl)
theorem dX10_sameAs_3 : decode cX10_sameAs 3 = .ok (.istore_n 3, 1) := @dq_o62 cX10_sameAs 3 (qX10_sameAs_0 3 62 rfl)
theorem dX10_sameAs_4 : decode cX10_sameAs 4 = .ok (.iload_n 3, 1) := @dq_o29 cX10_sameAs 4 (qX10_sameAs_0 4 29 rfl)
theorem dX10_sameAs_5 : decode cX10_sameAs 5 = .ok (.bipush 10, 2) := @dq_o16 cX10_sameAs 5 10 (qX10_sameAs_0 5 16 rfl) (qX10_sameAs_0 6 10 rfl)
theorem dX10_sameAs_7 : decode cX10_sameAs 7 = .ok (.if_icmp .ge 31, 3) := @dq_o162 cX10_sameAs 7 0 31 (qX10_sameAs_0 7 162 rfl) (qX10_sameAs_0 8 0 rfl) (qX10_sameAs_0 9 31 rfl)
theorem dX10_sameAs_10 : decode cX10_sameAs 10 = .ok (.aload_n 1, 1) := @dq_o43 cX10_sameAs 10 (qX10_sameAs_0 10 43 rfl)
theorem dX10_sameAs_11 : decode cX10_sameAs 11 = .ok (.aload_n 0, 1) := @dq_o42 cX10_sameAs 11 (qX10_sameAs_0 11 42 rfl)
theorem dX10_sameAs_12 : decode cX10_sameAs 12 = .ok (.getfield 12, 3) := @dq_o180 cX10_sameAs 12 0 12 (qX10_sameAs_0 12 180 rfl) (qX10_sameAs_0 13 0 rfl) (qX10_sameAs_0 14 12 rfl)
theorem dX10_sameAs_15 : decode cX10_sameAs 15 = .ok (.getfield 210, 3) := @dq_o180 cX10_sameAs 15 0 210 (qX10_sameAs_0 15 180 rfl) (qX10_sameAs_1 0 0 rfl) (qX10_sameAs_1 1 210 rfl)
theorem dX10_sameAs_18 : decode cX10_sameAs 18 = .ok (.iload_n 3, 1) := @dq_o29 cX10_sameAs 18 (qX10_sameAs_1 2 29 rfl)
theorem dX10_sameAs_19 : decode cX10_sameAs 19 = .ok (.aaload, 1) := @dq_o50 cX10_sameAs 19 (qX10_sameAs_1 3 50 rfl)
theorem dX10_sameAs_20 : decode cX10_sameAs 20 = .ok (.invokestatic 343, 3) := @dq_o184 cX10_sameAs 20 1 87 (qX10_sameAs_1 4 184 rfl) (qX10_sameAs_1 5 1 rfl) (qX10_sameAs_1 6 87 rfl)
theorem dX10_sameAs_23 : decode cX10_sameAs 23 = .ok (.ifCond .eq 9, 3) := @dq_o153 cX10_sameAs 23 0 9 (qX10_sameAs_1 7 153 rfl) (qX10_sameAs_1 8 0 rfl) (qX10_sameAs_1 9 9 rfl)
theorem dX10_sameAs_26 : decode cX10_sameAs 26 = .ok (.iload_n 2, 1) := @dq_o28 cX10_sameAs 26 (qX10_sameAs_1 10 28 rfl)
theorem dX10_sameAs_27 : decode cX10_sameAs 27 = .ok (.iconst 1, 1) := @dq_o4 cX10_sameAs 27 (qX10_sameAs_1 11 4 rfl)
theorem dX10_sameAs_28 : decode cX10_sameAs 28 = .ok (.iload_n 3, 1) := @dq_o29 cX10_sameAs 28 (qX10_sameAs_1 12 29 rfl)
theorem dX10_sameAs_29 : decode cX10_sameAs 29 = .ok (.ishl, 1) := @dq_o120 cX10_sameAs 29 (qX10_sameAs_1 13 120 rfl)
theorem dX10_sameAs_30 : decode cX10_sameAs 30 = .ok (.ior, 1) := @dq_o128 cX10_sameAs 30 (qX10_sameAs_1 14 128 rfl)
theorem dX10_sameAs_31 : decode cX10_sameAs 31 = .ok (.istore_n 2, 1) := @dq_o61 cX10_sameAs 31 (qX10_sameAs_1 15 61 rfl)
theorem dX10_sameAs_32 : decode cX10_sameAs 32 = .ok (.iinc 3 1, 3) := @dq_o132 cX10_sameAs 32 3 1 (qX10_sameAs_2 0 132 rfl) (qX10_sameAs_2 1 3 rfl) (qX10_sameAs_2 2 1 rfl)
theorem dX10_sameAs_35 : decode cX10_sameAs 35 = .ok (.goto (-31), 3) := @dq_o167 cX10_sameAs 35 255 225 (qX10_sameAs_2 3 167 rfl) (qX10_sameAs_2 4 255 rfl) (qX10_sameAs_2 5 225 rfl)
theorem dX10_sameAs_38 : decode cX10_sameAs 38 = .ok (.iload_n 2, 1) := @dq_o28 cX10_sameAs 38 (qX10_sameAs_2 6 28 rfl)
theorem dX10_sameAs_39 : decode cX10_sameAs 39 = .ok (.ireturn, 1) := @dq_o172 cX10_sameAs 39 (qX10_sameAs_2 7 172 rfl)
abbrev qaX10_leastMade_0 : List Nat := [42, 180, 0, 85, 16, 6, 182, 1, 130, 4, 62, 29, 42, 180, 0, 12]
abbrev qaX10_leastMade_1 : List Nat := [180, 0, 105, 180, 0, 178, 162, 0, 52, 3, 54, 4, 21, 4, 29, 162]
abbrev qaX10_leastMade_2 : List Nat := [0, 37, 42, 180, 0, 12, 180, 0, 105, 29, 21, 4, 42, 180, 0, 98]
abbrev qaX10_leastMade_3 : List Nat := [182, 1, 133, 42, 180, 0, 85, 42, 180, 0, 98, 182, 1, 137, 132, 4]
abbrev qaX10_leastMade_4 : List Nat := [1, 167, 255, 219, 132, 3, 1, 167, 255, 196, 4, 62, 29, 28, 163, 0]
abbrev qaX10_leastMade_5 : List Nat := [39, 42, 180, 0, 62, 42, 180, 0, 98, 43, 29, 133, 182, 0, 228, 42]
abbrev qaX10_leastMade_6 : List Nat := [180, 0, 85, 42, 180, 0, 98, 182, 1, 140, 153, 0, 5, 29, 172, 132]
abbrev qaX10_leastMade_7 : List Nat := [3, 1, 167, 255, 218, 3, 172]
def qtX10_leastMade_8 : List Nat := []
def qtX10_leastMade_7 : List Nat := qaX10_leastMade_7 ++ qtX10_leastMade_8
def qtX10_leastMade_6 : List Nat := qaX10_leastMade_6 ++ qtX10_leastMade_7
def qtX10_leastMade_5 : List Nat := qaX10_leastMade_5 ++ qtX10_leastMade_6
def qtX10_leastMade_4 : List Nat := qaX10_leastMade_4 ++ qtX10_leastMade_5
def qtX10_leastMade_3 : List Nat := qaX10_leastMade_3 ++ qtX10_leastMade_4
def qtX10_leastMade_2 : List Nat := qaX10_leastMade_2 ++ qtX10_leastMade_3
def qtX10_leastMade_1 : List Nat := qaX10_leastMade_1 ++ qtX10_leastMade_2
def qtX10_leastMade_0 : List Nat := qaX10_leastMade_0 ++ qtX10_leastMade_1
theorem qeX10_leastMade : cX10_leastMade.data.toList.map UInt8.toNat = qtX10_leastMade_0 := by decide +kernel
theorem qsX10_leastMade_0 : ∀ i, dqNth qtX10_leastMade_0 (0 + i) = dqNth qtX10_leastMade_0 i := fun i => by rw [Nat.zero_add]
theorem qsX10_leastMade_1 : ∀ i, dqNth qtX10_leastMade_0 (16 + i) = dqNth qtX10_leastMade_1 i := dq_step qsX10_leastMade_0 rfl rfl
theorem qsX10_leastMade_2 : ∀ i, dqNth qtX10_leastMade_0 (32 + i) = dqNth qtX10_leastMade_2 i := dq_step qsX10_leastMade_1 rfl rfl
theorem qsX10_leastMade_3 : ∀ i, dqNth qtX10_leastMade_0 (48 + i) = dqNth qtX10_leastMade_3 i := dq_step qsX10_leastMade_2 rfl rfl
theorem qsX10_leastMade_4 : ∀ i, dqNth qtX10_leastMade_0 (64 + i) = dqNth qtX10_leastMade_4 i := dq_step qsX10_leastMade_3 rfl rfl
theorem qsX10_leastMade_5 : ∀ i, dqNth qtX10_leastMade_0 (80 + i) = dqNth qtX10_leastMade_5 i := dq_step qsX10_leastMade_4 rfl rfl
theorem qsX10_leastMade_6 : ∀ i, dqNth qtX10_leastMade_0 (96 + i) = dqNth qtX10_leastMade_6 i := dq_step qsX10_leastMade_5 rfl rfl
theorem qsX10_leastMade_7 : ∀ i, dqNth qtX10_leastMade_0 (112 + i) = dqNth qtX10_leastMade_7 i := dq_step qsX10_leastMade_6 rfl rfl
theorem qX10_leastMade_0 (i b : Nat) (h : dqNth qaX10_leastMade_0 i = some b) : DqBy cX10_leastMade (0 + i) b := dqBy_of qeX10_leastMade ((qsX10_leastMade_0 i).trans (dq_in h))
theorem qX10_leastMade_1 (i b : Nat) (h : dqNth qaX10_leastMade_1 i = some b) : DqBy cX10_leastMade (16 + i) b := dqBy_of qeX10_leastMade ((qsX10_leastMade_1 i).trans (dq_in h))
theorem qX10_leastMade_2 (i b : Nat) (h : dqNth qaX10_leastMade_2 i = some b) : DqBy cX10_leastMade (32 + i) b := dqBy_of qeX10_leastMade ((qsX10_leastMade_2 i).trans (dq_in h))
theorem qX10_leastMade_3 (i b : Nat) (h : dqNth qaX10_leastMade_3 i = some b) : DqBy cX10_leastMade (48 + i) b := dqBy_of qeX10_leastMade ((qsX10_leastMade_3 i).trans (dq_in h))
theorem qX10_leastMade_4 (i b : Nat) (h : dqNth qaX10_leastMade_4 i = some b) : DqBy cX10_leastMade (64 + i) b := dqBy_of qeX10_leastMade ((qsX10_leastMade_4 i).trans (dq_in h))
theorem qX10_leastMade_5 (i b : Nat) (h : dqNth qaX10_leastMade_5 i = some b) : DqBy cX10_leastMade (80 + i) b := dqBy_of qeX10_leastMade ((qsX10_leastMade_5 i).trans (dq_in h))
theorem qX10_leastMade_6 (i b : Nat) (h : dqNth qaX10_leastMade_6 i = some b) : DqBy cX10_leastMade (96 + i) b := dqBy_of qeX10_leastMade ((qsX10_leastMade_6 i).trans (dq_in h))
theorem qX10_leastMade_7 (i b : Nat) (h : dqNth qaX10_leastMade_7 i = some b) : DqBy cX10_leastMade (112 + i) b := dqBy_of qeX10_leastMade ((qsX10_leastMade_7 i).trans (dq_in h))
theorem dX10_leastMade_0 : decode cX10_leastMade 0 = .ok (.aload_n 0, 1) := @dq_o42 cX10_leastMade 0 (qX10_leastMade_0 0 42 rfl)
theorem dX10_leastMade_1 : decode cX10_leastMade 1 = .ok (.getfield 85, 3) := @dq_o180 cX10_leastMade 1 0 85 (qX10_leastMade_0 1 180 rfl) (qX10_leastMade_0 2 0 rfl) (qX10_leastMade_0 3 85 rfl)
theorem dX10_leastMade_4 : decode cX10_leastMade 4 = .ok (.bipush 6, 2) := @dq_o16 cX10_leastMade 4 6 (qX10_leastMade_0 4 16 rfl) (qX10_leastMade_0 5 6 rfl)
theorem dX10_leastMade_6 : decode cX10_leastMade 6 = .ok (.invokevirtual 386, 3) := @dq_o182 cX10_leastMade 6 1 130 (qX10_leastMade_0 6 182 rfl) (qX10_leastMade_0 7 1 rfl) (qX10_leastMade_0 8 130 rfl)
theorem dX10_leastMade_9 : decode cX10_leastMade 9 = .ok (.iconst 1, 1) := @dq_o4 cX10_leastMade 9 (qX10_leastMade_0 9 4 rfl)
theorem dX10_leastMade_10 : decode cX10_leastMade 10 = .ok (.istore_n 3, 1) := @dq_o62 cX10_leastMade 10 (qX10_leastMade_0 10 62 rfl)
theorem dX10_leastMade_11 : decode cX10_leastMade 11 = .ok (.iload_n 3, 1) := @dq_o29 cX10_leastMade 11 (qX10_leastMade_0 11 29 rfl)
theorem dX10_leastMade_12 : decode cX10_leastMade 12 = .ok (.aload_n 0, 1) := @dq_o42 cX10_leastMade 12 (qX10_leastMade_0 12 42 rfl)
theorem dX10_leastMade_13 : decode cX10_leastMade 13 = .ok (.getfield 12, 3) := @dq_o180 cX10_leastMade 13 0 12 (qX10_leastMade_0 13 180 rfl) (qX10_leastMade_0 14 0 rfl) (qX10_leastMade_0 15 12 rfl)
theorem dX10_leastMade_16 : decode cX10_leastMade 16 = .ok (.getfield 105, 3) := @dq_o180 cX10_leastMade 16 0 105 (qX10_leastMade_1 0 180 rfl) (qX10_leastMade_1 1 0 rfl) (qX10_leastMade_1 2 105 rfl)
theorem dX10_leastMade_19 : decode cX10_leastMade 19 = .ok (.getfield 178, 3) := @dq_o180 cX10_leastMade 19 0 178 (qX10_leastMade_1 3 180 rfl) (qX10_leastMade_1 4 0 rfl) (qX10_leastMade_1 5 178 rfl)
theorem dX10_leastMade_22 : decode cX10_leastMade 22 = .ok (.if_icmp .ge 52, 3) := @dq_o162 cX10_leastMade 22 0 52 (qX10_leastMade_1 6 162 rfl) (qX10_leastMade_1 7 0 rfl) (qX10_leastMade_1 8 52 rfl)
theorem dX10_leastMade_25 : decode cX10_leastMade 25 = .ok (.iconst 0, 1) := @dq_o3 cX10_leastMade 25 (qX10_leastMade_1 9 3 rfl)
theorem dX10_leastMade_26 : decode cX10_leastMade 26 = .ok (.istore 4, 2) := @dq_o54 cX10_leastMade 26 4 (qX10_leastMade_1 10 54 rfl) (qX10_leastMade_1 11 4 rfl)
theorem dX10_leastMade_28 : decode cX10_leastMade 28 = .ok (.iload 4, 2) := @dq_o21 cX10_leastMade 28 4 (qX10_leastMade_1 12 21 rfl) (qX10_leastMade_1 13 4 rfl)
theorem dX10_leastMade_30 : decode cX10_leastMade 30 = .ok (.iload_n 3, 1) := @dq_o29 cX10_leastMade 30 (qX10_leastMade_1 14 29 rfl)
theorem dX10_leastMade_31 : decode cX10_leastMade 31 = .ok (.if_icmp .ge 37, 3) := @dq_o162 cX10_leastMade 31 0 37 (qX10_leastMade_1 15 162 rfl) (qX10_leastMade_2 0 0 rfl) (qX10_leastMade_2 1 37 rfl)
theorem dX10_leastMade_34 : decode cX10_leastMade 34 = .ok (.aload_n 0, 1) := @dq_o42 cX10_leastMade 34 (qX10_leastMade_2 2 42 rfl)
theorem dX10_leastMade_35 : decode cX10_leastMade 35 = .ok (.getfield 12, 3) := @dq_o180 cX10_leastMade 35 0 12 (qX10_leastMade_2 3 180 rfl) (qX10_leastMade_2 4 0 rfl) (qX10_leastMade_2 5 12 rfl)
theorem dX10_leastMade_38 : decode cX10_leastMade 38 = .ok (.getfield 105, 3) := @dq_o180 cX10_leastMade 38 0 105 (qX10_leastMade_2 6 180 rfl) (qX10_leastMade_2 7 0 rfl) (qX10_leastMade_2 8 105 rfl)
theorem dX10_leastMade_41 : decode cX10_leastMade 41 = .ok (.iload_n 3, 1) := @dq_o29 cX10_leastMade 41 (qX10_leastMade_2 9 29 rfl)
theorem dX10_leastMade_42 : decode cX10_leastMade 42 = .ok (.iload 4, 2) := @dq_o21 cX10_leastMade 42 4 (qX10_leastMade_2 10 21 rfl) (qX10_leastMade_2 11 4 rfl)
theorem dX10_leastMade_44 : decode cX10_leastMade 44 = .ok (.aload_n 0, 1) := @dq_o42 cX10_leastMade 44 (qX10_leastMade_2 12 42 rfl)
theorem dX10_leastMade_45 : decode cX10_leastMade 45 = .ok (.getfield 98, 3) := @dq_o180 cX10_leastMade 45 0 98 (qX10_leastMade_2 13 180 rfl) (qX10_leastMade_2 14 0 rfl) (qX10_leastMade_2 15 98 rfl)
theorem dX10_leastMade_48 : decode cX10_leastMade 48 = .ok (.invokevirtual 389, 3) := @dq_o182 cX10_leastMade 48 1 133 (qX10_leastMade_3 0 182 rfl) (qX10_leastMade_3 1 1 rfl) (qX10_leastMade_3 2 133 rfl)
theorem dX10_leastMade_51 : decode cX10_leastMade 51 = .ok (.aload_n 0, 1) := @dq_o42 cX10_leastMade 51 (qX10_leastMade_3 3 42 rfl)
theorem dX10_leastMade_52 : decode cX10_leastMade 52 = .ok (.getfield 85, 3) := @dq_o180 cX10_leastMade 52 0 85 (qX10_leastMade_3 4 180 rfl) (qX10_leastMade_3 5 0 rfl) (qX10_leastMade_3 6 85 rfl)
theorem dX10_leastMade_55 : decode cX10_leastMade 55 = .ok (.aload_n 0, 1) := @dq_o42 cX10_leastMade 55 (qX10_leastMade_3 7 42 rfl)
theorem dX10_leastMade_56 : decode cX10_leastMade 56 = .ok (.getfield 98, 3) := @dq_o180 cX10_leastMade 56 0 98 (qX10_leastMade_3 8 180 rfl) (qX10_leastMade_3 9 0 rfl) (qX10_leastMade_3 10 98 rfl)
theorem dX10_leastMade_59 : decode cX10_leastMade 59 = .ok (.invokevirtual 393, 3) := @dq_o182 cX10_leastMade 59 1 137 (qX10_leastMade_3 11 182 rfl) (qX10_leastMade_3 12 1 rfl) (qX10_leastMade_3 13 137 rfl)
theorem dX10_leastMade_62 : decode cX10_leastMade 62 = .ok (.iinc 4 1, 3) := @dq_o132 cX10_leastMade 62 4 1 (qX10_leastMade_3 14 132 rfl) (qX10_leastMade_3 15 4 rfl) (qX10_leastMade_4 0 1 rfl)
theorem dX10_leastMade_65 : decode cX10_leastMade 65 = .ok (.goto (-37), 3) := @dq_o167 cX10_leastMade 65 255 219 (qX10_leastMade_4 1 167 rfl) (qX10_leastMade_4 2 255 rfl) (qX10_leastMade_4 3 219 rfl)
theorem dX10_leastMade_68 : decode cX10_leastMade 68 = .ok (.iinc 3 1, 3) := @dq_o132 cX10_leastMade 68 3 1 (qX10_leastMade_4 4 132 rfl) (qX10_leastMade_4 5 3 rfl) (qX10_leastMade_4 6 1 rfl)
theorem dX10_leastMade_71 : decode cX10_leastMade 71 = .ok (.goto (-60), 3) := @dq_o167 cX10_leastMade 71 255 196 (qX10_leastMade_4 7 167 rfl) (qX10_leastMade_4 8 255 rfl) (qX10_leastMade_4 9 196 rfl)
theorem dX10_leastMade_74 : decode cX10_leastMade 74 = .ok (.iconst 1, 1) := @dq_o4 cX10_leastMade 74 (qX10_leastMade_4 10 4 rfl)
theorem dX10_leastMade_75 : decode cX10_leastMade 75 = .ok (.istore_n 3, 1) := @dq_o62 cX10_leastMade 75 (qX10_leastMade_4 11 62 rfl)
theorem dX10_leastMade_76 : decode cX10_leastMade 76 = .ok (.iload_n 3, 1) := @dq_o29 cX10_leastMade 76 (qX10_leastMade_4 12 29 rfl)
theorem dX10_leastMade_77 : decode cX10_leastMade 77 = .ok (.iload_n 2, 1) := @dq_o28 cX10_leastMade 77 (qX10_leastMade_4 13 28 rfl)
theorem dX10_leastMade_78 : decode cX10_leastMade 78 = .ok (.if_icmp .gt 39, 3) := @dq_o163 cX10_leastMade 78 0 39 (qX10_leastMade_4 14 163 rfl) (qX10_leastMade_4 15 0 rfl) (qX10_leastMade_5 0 39 rfl)
theorem dX10_leastMade_81 : decode cX10_leastMade 81 = .ok (.aload_n 0, 1) := @dq_o42 cX10_leastMade 81 (qX10_leastMade_5 1 42 rfl)
theorem dX10_leastMade_82 : decode cX10_leastMade 82 = .ok (.getfield 62, 3) := @dq_o180 cX10_leastMade 82 0 62 (qX10_leastMade_5 2 180 rfl) (qX10_leastMade_5 3 0 rfl) (qX10_leastMade_5 4 62 rfl)
theorem dX10_leastMade_85 : decode cX10_leastMade 85 = .ok (.aload_n 0, 1) := @dq_o42 cX10_leastMade 85 (qX10_leastMade_5 5 42 rfl)
theorem dX10_leastMade_86 : decode cX10_leastMade 86 = .ok (.getfield 98, 3) := @dq_o180 cX10_leastMade 86 0 98 (qX10_leastMade_5 6 180 rfl) (qX10_leastMade_5 7 0 rfl) (qX10_leastMade_5 8 98 rfl)
theorem dX10_leastMade_89 : decode cX10_leastMade 89 = .ok (.aload_n 1, 1) := @dq_o43 cX10_leastMade 89 (qX10_leastMade_5 9 43 rfl)
theorem dX10_leastMade_90 : decode cX10_leastMade 90 = .ok (.iload_n 3, 1) := @dq_o29 cX10_leastMade 90 (qX10_leastMade_5 10 29 rfl)
theorem dX10_leastMade_91 : decode cX10_leastMade 91 = .ok (.i2l, 1) := @dq_o133 cX10_leastMade 91 (qX10_leastMade_5 11 133 rfl)
theorem dX10_leastMade_92 : decode cX10_leastMade 92 = .ok (.invokevirtual 228, 3) := @dq_o182 cX10_leastMade 92 0 228 (qX10_leastMade_5 12 182 rfl) (qX10_leastMade_5 13 0 rfl) (qX10_leastMade_5 14 228 rfl)
theorem dX10_leastMade_95 : decode cX10_leastMade 95 = .ok (.aload_n 0, 1) := @dq_o42 cX10_leastMade 95 (qX10_leastMade_5 15 42 rfl)
theorem dX10_leastMade_96 : decode cX10_leastMade 96 = .ok (.getfield 85, 3) := @dq_o180 cX10_leastMade 96 0 85 (qX10_leastMade_6 0 180 rfl) (qX10_leastMade_6 1 0 rfl) (qX10_leastMade_6 2 85 rfl)
theorem dX10_leastMade_99 : decode cX10_leastMade 99 = .ok (.aload_n 0, 1) := @dq_o42 cX10_leastMade 99 (qX10_leastMade_6 3 42 rfl)
theorem dX10_leastMade_100 : decode cX10_leastMade 100 = .ok (.getfield 98, 3) := @dq_o180 cX10_leastMade 100 0 98 (qX10_leastMade_6 4 180 rfl) (qX10_leastMade_6 5 0 rfl) (qX10_leastMade_6 6 98 rfl)
theorem dX10_leastMade_103 : decode cX10_leastMade 103 = .ok (.invokevirtual 396, 3) := @dq_o182 cX10_leastMade 103 1 140 (qX10_leastMade_6 7 182 rfl) (qX10_leastMade_6 8 1 rfl) (qX10_leastMade_6 9 140 rfl)
theorem dX10_leastMade_106 : decode cX10_leastMade 106 = .ok (.ifCond .eq 5, 3) := @dq_o153 cX10_leastMade 106 0 5 (qX10_leastMade_6 10 153 rfl) (qX10_leastMade_6 11 0 rfl) (qX10_leastMade_6 12 5 rfl)
theorem dX10_leastMade_109 : decode cX10_leastMade 109 = .ok (.iload_n 3, 1) := @dq_o29 cX10_leastMade 109 (qX10_leastMade_6 13 29 rfl)
theorem dX10_leastMade_110 : decode cX10_leastMade 110 = .ok (.ireturn, 1) := @dq_o172 cX10_leastMade 110 (qX10_leastMade_6 14 172 rfl)
theorem dX10_leastMade_111 : decode cX10_leastMade 111 = .ok (.iinc 3 1, 3) := @dq_o132 cX10_leastMade 111 3 1 (qX10_leastMade_6 15 132 rfl) (qX10_leastMade_7 0 3 rfl) (qX10_leastMade_7 1 1 rfl)
theorem dX10_leastMade_114 : decode cX10_leastMade 114 = .ok (.goto (-38), 3) := @dq_o167 cX10_leastMade 114 255 218 (qX10_leastMade_7 2 167 rfl) (qX10_leastMade_7 3 255 rfl) (qX10_leastMade_7 4 218 rfl)
theorem dX10_leastMade_117 : decode cX10_leastMade 117 = .ok (.iconst 0, 1) := @dq_o3 cX10_leastMade 117 (qX10_leastMade_7 5 3 rfl)
theorem dX10_leastMade_118 : decode cX10_leastMade 118 = .ok (.ireturn, 1) := @dq_o172 cX10_leastMade 118 (qX10_leastMade_7 6 172 rfl)
abbrev qaX10_firstDifference_0 : List Nat := [3, 62, 29, 42, 180, 0, 12, 180, 0, 105, 180, 0, 178, 162, 0, 23]
abbrev qaX10_firstDifference_1 : List Nat := [43, 29, 47, 44, 29, 47, 148, 153, 0, 7, 29, 4, 96, 172, 132, 3]
abbrev qaX10_firstDifference_2 : List Nat := [1, 167, 255, 225, 3, 172]
def qtX10_firstDifference_3 : List Nat := []
def qtX10_firstDifference_2 : List Nat := qaX10_firstDifference_2 ++ qtX10_firstDifference_3
def qtX10_firstDifference_1 : List Nat := qaX10_firstDifference_1 ++ qtX10_firstDifference_2
def qtX10_firstDifference_0 : List Nat := qaX10_firstDifference_0 ++ qtX10_firstDifference_1
theorem qeX10_firstDifference : cX10_firstDifference.data.toList.map UInt8.toNat = qtX10_firstDifference_0 := by decide +kernel
theorem qsX10_firstDifference_0 : ∀ i, dqNth qtX10_firstDifference_0 (0 + i) = dqNth qtX10_firstDifference_0 i := fun i => by rw [Nat.zero_add]
theorem qsX10_firstDifference_1 : ∀ i, dqNth qtX10_firstDifference_0 (16 + i) = dqNth qtX10_firstDifference_1 i := dq_step qsX10_firstDifference_0 rfl rfl
theorem qsX10_firstDifference_2 : ∀ i, dqNth qtX10_firstDifference_0 (32 + i) = dqNth qtX10_firstDifference_2 i := dq_step qsX10_firstDifference_1 rfl rfl
theorem qX10_firstDifference_0 (i b : Nat) (h : dqNth qaX10_firstDifference_0 i = some b) : DqBy cX10_firstDifference (0 + i) b := dqBy_of qeX10_firstDifference ((qsX10_firstDifference_0 i).trans (dq_in h))
theorem qX10_firstDifference_1 (i b : Nat) (h : dqNth qaX10_firstDifference_1 i = some b) : DqBy cX10_firstDifference (16 + i) b := dqBy_of qeX10_firstDifference ((qsX10_firstDifference_1 i).trans (dq_in h))
theorem qX10_firstDifference_2 (i b : Nat) (h : dqNth qaX10_firstDifference_2 i = some b) : DqBy cX10_firstDifference (32 + i) b := dqBy_of qeX10_firstDifference ((qsX10_firstDifference_2 i).trans (dq_in h))
theorem dX10_firstDifference_0 : decode cX10_firstDifference 0 = .ok (.iconst 0, 1) := @dq_o3 cX10_firstDifference 0 (qX10_firstDifference_0 0 3 rfl)
theorem dX10_firstDifference_1 : decode cX10_firstDifference 1 = .ok (.istore_n 3, 1) := @dq_o62 cX10_firstDifference 1 (qX10_firstDifference_0 1 62 rfl)
theorem dX10_firstDifference_2 : decode cX10_firstDifference 2 = .ok (.iload_n 3, 1) := @dq_o29 cX10_firstDifference 2 (qX10_firstDifference_0 2 29 rfl)
theorem dX10_firstDifference_3 : decode cX10_firstDifference 3 = .ok (.aload_n 0, 1) := @dq_o42 cX10_firstDifference 3 (qX10_firstDifference_0 3 42 rfl)
theorem dX10_firstDifference_4 : decode cX10_firstDifference 4 = .ok (.getfield 12, 3) := @dq_o180 cX10_firstDifference 4 0 12 (qX10_firstDifference_0 4 180 rfl) (qX10_firstDifference_0 5 0 rfl) (qX10_firstDifference_0 6 12 rfl)
theorem dX10_firstDifference_7 : decode cX10_firstDifference 7 = .ok (.getfield 105, 3) := @dq_o180 cX10_firstDifference 7 0 105 (qX10_firstDifference_0 7 180 rfl) (qX10_firstDifference_0 8 0 rfl) (qX10_firstDifference_0 9 105 rfl)
theorem dX10_firstDifference_10 : decode cX10_firstDifference 10 = .ok (.getfield 178, 3) := @dq_o180 cX10_firstDifference 10 0 178 (qX10_firstDifference_0 10 180 rfl) (qX10_firstDifference_0 11 0 rfl) (qX10_firstDifference_0 12 178 rfl)
theorem dX10_firstDifference_13 : decode cX10_firstDifference 13 = .ok (.if_icmp .ge 23, 3) := @dq_o162 cX10_firstDifference 13 0 23 (qX10_firstDifference_0 13 162 rfl) (qX10_firstDifference_0 14 0 rfl) (qX10_firstDifference_0 15 23 rfl)
theorem dX10_firstDifference_16 : decode cX10_firstDifference 16 = .ok (.aload_n 1, 1) := @dq_o43 cX10_firstDifference 16 (qX10_firstDifference_1 0 43 rfl)
theorem dX10_firstDifference_17 : decode cX10_firstDifference 17 = .ok (.iload_n 3, 1) := @dq_o29 cX10_firstDifference 17 (qX10_firstDifference_1 1 29 rfl)
theorem dX10_firstDifference_18 : decode cX10_firstDifference 18 = .ok (.laload, 1) := @dq_o47 cX10_firstDifference 18 (qX10_firstDifference_1 2 47 rfl)
theorem dX10_firstDifference_19 : decode cX10_firstDifference 19 = .ok (.aload_n 2, 1) := @dq_o44 cX10_firstDifference 19 (qX10_firstDifference_1 3 44 rfl)
theorem dX10_firstDifference_20 : decode cX10_firstDifference 20 = .ok (.iload_n 3, 1) := @dq_o29 cX10_firstDifference 20 (qX10_firstDifference_1 4 29 rfl)
theorem dX10_firstDifference_21 : decode cX10_firstDifference 21 = .ok (.laload, 1) := @dq_o47 cX10_firstDifference 21 (qX10_firstDifference_1 5 47 rfl)
theorem dX10_firstDifference_22 : decode cX10_firstDifference 22 = .ok (.lcmp, 1) := @dq_o148 cX10_firstDifference 22 (qX10_firstDifference_1 6 148 rfl)
theorem dX10_firstDifference_23 : decode cX10_firstDifference 23 = .ok (.ifCond .eq 7, 3) := @dq_o153 cX10_firstDifference 23 0 7 (qX10_firstDifference_1 7 153 rfl) (qX10_firstDifference_1 8 0 rfl) (qX10_firstDifference_1 9 7 rfl)
theorem dX10_firstDifference_26 : decode cX10_firstDifference 26 = .ok (.iload_n 3, 1) := @dq_o29 cX10_firstDifference 26 (qX10_firstDifference_1 10 29 rfl)
theorem dX10_firstDifference_27 : decode cX10_firstDifference 27 = .ok (.iconst 1, 1) := @dq_o4 cX10_firstDifference 27 (qX10_firstDifference_1 11 4 rfl)
theorem dX10_firstDifference_28 : decode cX10_firstDifference 28 = .ok (.iadd, 1) := @dq_o96 cX10_firstDifference 28 (qX10_firstDifference_1 12 96 rfl)
theorem dX10_firstDifference_29 : decode cX10_firstDifference 29 = .ok (.ireturn, 1) := @dq_o172 cX10_firstDifference 29 (qX10_firstDifference_1 13 172 rfl)
theorem dX10_firstDifference_30 : decode cX10_firstDifference 30 = .ok (.iinc 3 1, 3) := @dq_o132 cX10_firstDifference 30 3 1 (qX10_firstDifference_1 14 132 rfl) (qX10_firstDifference_1 15 3 rfl) (qX10_firstDifference_2 0 1 rfl)
theorem dX10_firstDifference_33 : decode cX10_firstDifference 33 = .ok (.goto (-31), 3) := @dq_o167 cX10_firstDifference 33 255 225 (qX10_firstDifference_2 1 167 rfl) (qX10_firstDifference_2 2 255 rfl) (qX10_firstDifference_2 3 225 rfl)
theorem dX10_firstDifference_36 : decode cX10_firstDifference 36 = .ok (.iconst 0, 1) := @dq_o3 cX10_firstDifference 36 (qX10_firstDifference_2 4 3 rfl)
theorem dX10_firstDifference_37 : decode cX10_firstDifference 37 = .ok (.ireturn, 1) := @dq_o172 cX10_firstDifference 37 (qX10_firstDifference_2 5 172 rfl)
abbrev qaX10_registersNotOne_0 : List Nat := [3, 60, 3, 61, 28, 16, 10, 162, 0, 30, 42, 180, 0, 12, 180, 0]
abbrev qaX10_registersNotOne_1 : List Nat := [210, 28, 50, 184, 1, 44, 154, 0, 9, 27, 4, 28, 120, 128, 60, 132]
abbrev qaX10_registersNotOne_2 : List Nat := [2, 1, 167, 255, 226, 27, 172]
def qtX10_registersNotOne_3 : List Nat := []
def qtX10_registersNotOne_2 : List Nat := qaX10_registersNotOne_2 ++ qtX10_registersNotOne_3
def qtX10_registersNotOne_1 : List Nat := qaX10_registersNotOne_1 ++ qtX10_registersNotOne_2
def qtX10_registersNotOne_0 : List Nat := qaX10_registersNotOne_0 ++ qtX10_registersNotOne_1
theorem qeX10_registersNotOne : cX10_registersNotOne.data.toList.map UInt8.toNat = qtX10_registersNotOne_0 := by decide +kernel
theorem qsX10_registersNotOne_0 : ∀ i, dqNth qtX10_registersNotOne_0 (0 + i) = dqNth qtX10_registersNotOne_0 i := fun i => by rw [Nat.zero_add]
theorem qsX10_registersNotOne_1 : ∀ i, dqNth qtX10_registersNotOne_0 (16 + i) = dqNth qtX10_registersNotOne_1 i := dq_step qsX10_registersNotOne_0 rfl rfl
theorem qsX10_registersNotOne_2 : ∀ i, dqNth qtX10_registersNotOne_0 (32 + i) = dqNth qtX10_registersNotOne_2 i := dq_step qsX10_registersNotOne_1 rfl rfl
theorem qX10_registersNotOne_0 (i b : Nat) (h : dqNth qaX10_registersNotOne_0 i = some b) : DqBy cX10_registersNotOne (0 + i) b := dqBy_of qeX10_registersNotOne ((qsX10_registersNotOne_0 i).trans (dq_in h))
theorem qX10_registersNotOne_1 (i b : Nat) (h : dqNth qaX10_registersNotOne_1 i = some b) : DqBy cX10_registersNotOne (16 + i) b := dqBy_of qeX10_registersNotOne ((qsX10_registersNotOne_1 i).trans (dq_in h))
theorem qX10_registersNotOne_2 (i b : Nat) (h : dqNth qaX10_registersNotOne_2 i = some b) : DqBy cX10_registersNotOne (32 + i) b := dqBy_of qeX10_registersNotOne ((qsX10_registersNotOne_2 i).trans (dq_in h))
theorem dX10_registersNotOne_0 : decode cX10_registersNotOne 0 = .ok (.iconst 0, 1) := @dq_o3 cX10_registersNotOne 0 (qX10_registersNotOne_0 0 3 rfl)
theorem dX10_registersNotOne_1 : decode cX10_registersNotOne 1 = .ok (.istore_n 1, 1) := @dq_o60 cX10_registersNotOne 1 (qX10_registersNotOne_0 1 60 rfl)
theorem dX10_registersNotOne_2 : decode cX10_registersNotOne 2 = .ok (.iconst 0, 1) := @dq_o3 cX10_registersNotOne 2 (qX10_registersNotOne_0 2 3 rfl)
theorem dX10_registersNotOne_3 : decode cX10_registersNotOne 3 = .ok (.istore_n 2, 1) := @dq_o61 cX10_registersNotOne 3 (qX10_registersNotOne_0 3 61 rfl)
theorem dX10_registersNotOne_4 : decode cX10_registersNotOne 4 = .ok (.iload_n 2, 1) := @dq_o28 cX10_registersNotOne 4 (qX10_registersNotOne_0 4 28 rfl)
theorem dX10_registersNotOne_5 : decode cX10_registersNotOne 5 = .ok (.bipush 10, 2) := @dq_o16 cX10_registersNotOne 5 10 (qX10_registersNotOne_0 5 16 rfl) (qX10_registersNotOne_0 6 10 rfl)
theorem dX10_registersNotOne_7 : decode cX10_registersNotOne 7 = .ok (.if_icmp .ge 30, 3) := @dq_o162 cX10_registersNotOne 7 0 30 (qX10_registersNotOne_0 7 162 rfl) (qX10_registersNotOne_0 8 0 rfl) (qX10_registersNotOne_0 9 30 rfl)
theorem dX10_registersNotOne_10 : decode cX10_registersNotOne 10 = .ok (.aload_n 0, 1) := @dq_o42 cX10_registersNotOne 10 (qX10_registersNotOne_0 10 42 rfl)
theorem dX10_registersNotOne_11 : decode cX10_registersNotOne 11 = .ok (.getfield 12, 3) := @dq_o180 cX10_registersNotOne 11 0 12 (qX10_registersNotOne_0 11 180 rfl) (qX10_registersNotOne_0 12 0 rfl) (qX10_registersNotOne_0 13 12 rfl)
theorem dX10_registersNotOne_14 : decode cX10_registersNotOne 14 = .ok (.getfield 210, 3) := @dq_o180 cX10_registersNotOne 14 0 210 (qX10_registersNotOne_0 14 180 rfl) (qX10_registersNotOne_0 15 0 rfl) (qX10_registersNotOne_1 0 210 rfl)
theorem dX10_registersNotOne_17 : decode cX10_registersNotOne 17 = .ok (.iload_n 2, 1) := @dq_o28 cX10_registersNotOne 17 (qX10_registersNotOne_1 1 28 rfl)
theorem dX10_registersNotOne_18 : decode cX10_registersNotOne 18 = .ok (.aaload, 1) := @dq_o50 cX10_registersNotOne 18 (qX10_registersNotOne_1 2 50 rfl)
theorem dX10_registersNotOne_19 : decode cX10_registersNotOne 19 = .ok (.invokestatic 300, 3) := @dq_o184 cX10_registersNotOne 19 1 44 (qX10_registersNotOne_1 3 184 rfl) (qX10_registersNotOne_1 4 1 rfl) (qX10_registersNotOne_1 5 44 rfl)
theorem dX10_registersNotOne_22 : decode cX10_registersNotOne 22 = .ok (.ifCond .ne 9, 3) := @dq_o154 cX10_registersNotOne 22 0 9 (qX10_registersNotOne_1 6 154 rfl) (qX10_registersNotOne_1 7 0 rfl) (qX10_registersNotOne_1 8 9 rfl)
theorem dX10_registersNotOne_25 : decode cX10_registersNotOne 25 = .ok (.iload_n 1, 1) := @dq_o27 cX10_registersNotOne 25 (qX10_registersNotOne_1 9 27 rfl)
theorem dX10_registersNotOne_26 : decode cX10_registersNotOne 26 = .ok (.iconst 1, 1) := @dq_o4 cX10_registersNotOne 26 (qX10_registersNotOne_1 10 4 rfl)
theorem dX10_registersNotOne_27 : decode cX10_registersNotOne 27 = .ok (.iload_n 2, 1) := @dq_o28 cX10_registersNotOne 27 (qX10_registersNotOne_1 11 28 rfl)
theorem dX10_registersNotOne_28 : decode cX10_registersNotOne 28 = .ok (.ishl, 1) := @dq_o120 cX10_registersNotOne 28 (qX10_registersNotOne_1 12 120 rfl)
theorem dX10_registersNotOne_29 : decode cX10_registersNotOne 29 = .ok (.ior, 1) := @dq_o128 cX10_registersNotOne 29 (qX10_registersNotOne_1 13 128 rfl)
theorem dX10_registersNotOne_30 : decode cX10_registersNotOne 30 = .ok (.istore_n 1, 1) := @dq_o60 cX10_registersNotOne 30 (qX10_registersNotOne_1 14 60 rfl)
theorem dX10_registersNotOne_31 : decode cX10_registersNotOne 31 = .ok (.iinc 2 1, 3) := @dq_o132 cX10_registersNotOne 31 2 1 (qX10_registersNotOne_1 15 132 rfl) (qX10_registersNotOne_2 0 2 rfl) (qX10_registersNotOne_2 1 1 rfl)
theorem dX10_registersNotOne_34 : decode cX10_registersNotOne 34 = .ok (.goto (-30), 3) := @dq_o167 cX10_registersNotOne 34 255 226 (qX10_registersNotOne_2 2 167 rfl) (qX10_registersNotOne_2 3 255 rfl) (qX10_registersNotOne_2 4 226 rfl)
theorem dX10_registersNotOne_37 : decode cX10_registersNotOne 37 = .ok (.iload_n 1, 1) := @dq_o27 cX10_registersNotOne 37 (qX10_registersNotOne_2 5 27 rfl)
theorem dX10_registersNotOne_38 : decode cX10_registersNotOne 38 = .ok (.ireturn, 1) := @dq_o172 cX10_registersNotOne 38 (qX10_registersNotOne_2 6 172 rfl)
abbrev qaX10_centralGenerators_0 : List Nat := [3, 60, 3, 61, 28, 42, 180, 0, 12, 180, 0, 105, 180, 0, 178, 162]
abbrev qaX10_centralGenerators_1 : List Nat := [0, 29, 42, 180, 0, 12, 180, 0, 105, 28, 182, 0, 155, 153, 0, 9]
abbrev qaX10_centralGenerators_2 : List Nat := [27, 4, 28, 120, 128, 60, 132, 2, 1, 167, 255, 219, 27, 172]
def qtX10_centralGenerators_3 : List Nat := []
def qtX10_centralGenerators_2 : List Nat := qaX10_centralGenerators_2 ++ qtX10_centralGenerators_3
def qtX10_centralGenerators_1 : List Nat := qaX10_centralGenerators_1 ++ qtX10_centralGenerators_2
def qtX10_centralGenerators_0 : List Nat := qaX10_centralGenerators_0 ++ qtX10_centralGenerators_1
theorem qeX10_centralGenerators : cX10_centralGenerators.data.toList.map UInt8.toNat = qtX10_centralGenerators_0 := by decide +kernel
theorem qsX10_centralGenerators_0 : ∀ i, dqNth qtX10_centralGenerators_0 (0 + i) = dqNth qtX10_centralGenerators_0 i := fun i => by rw [Nat.zero_add]
theorem qsX10_centralGenerators_1 : ∀ i, dqNth qtX10_centralGenerators_0 (16 + i) = dqNth qtX10_centralGenerators_1 i := dq_step qsX10_centralGenerators_0 rfl rfl
theorem qsX10_centralGenerators_2 : ∀ i, dqNth qtX10_centralGenerators_0 (32 + i) = dqNth qtX10_centralGenerators_2 i := dq_step qsX10_centralGenerators_1 rfl rfl
theorem qX10_centralGenerators_0 (i b : Nat) (h : dqNth qaX10_centralGenerators_0 i = some b) : DqBy cX10_centralGenerators (0 + i) b := dqBy_of qeX10_centralGenerators ((qsX10_centralGenerators_0 i).trans (dq_in h))
theorem qX10_centralGenerators_1 (i b : Nat) (h : dqNth qaX10_centralGenerators_1 i = some b) : DqBy cX10_centralGenerators (16 + i) b := dqBy_of qeX10_centralGenerators ((qsX10_centralGenerators_1 i).trans (dq_in h))
theorem qX10_centralGenerators_2 (i b : Nat) (h : dqNth qaX10_centralGenerators_2 i = some b) : DqBy cX10_centralGenerators (32 + i) b := dqBy_of qeX10_centralGenerators ((qsX10_centralGenerators_2 i).trans (dq_in h))
theorem dX10_centralGenerators_0 : decode cX10_centralGenerators 0 = .ok (.iconst 0, 1) := @dq_o3 cX10_centralGenerators 0 (qX10_centralGenerators_0 0 3 rfl)
theorem dX10_centralGenerators_1 : decode cX10_centralGenerators 1 = .ok (.istore_n 1, 1) := @dq_o60 cX10_centralGenerators 1 (qX10_centralGenerators_0 1 60 rfl)
theorem dX10_centralGenerators_2 : decode cX10_centralGenerators 2 = .ok (.iconst 0, 1) := @dq_o3 cX10_centralGenerators 2 (qX10_centralGenerators_0 2 3 rfl)
theorem dX10_centralGenerators_3 : decode cX10_centralGenerators 3 = .ok (.istore_n 2, 1) := @dq_o61 cX10_centralGenerators 3 (qX10_centralGenerators_0 3 61 rfl)
theorem dX10_centralGenerators_4 : decode cX10_centralGenerators 4 = .ok (.iload_n 2, 1) := @dq_o28 cX10_centralGenerators 4 (qX10_centralGenerators_0 4 28 rfl)
theorem dX10_centralGenerators_5 : decode cX10_centralGenerators 5 = .ok (.aload_n 0, 1) := @dq_o42 cX10_centralGenerators 5 (qX10_centralGenerators_0 5 42 rfl)
theorem dX10_centralGenerators_6 : decode cX10_centralGenerators 6 = .ok (.getfield 12, 3) := @dq_o180 cX10_centralGenerators 6 0 12 (qX10_centralGenerators_0 6 180 rfl) (qX10_centralGenerators_0 7 0 rfl) (qX10_centralGenerators_0 8 12 rfl)
theorem dX10_centralGenerators_9 : decode cX10_centralGenerators 9 = .ok (.getfield 105, 3) := @dq_o180 cX10_centralGenerators 9 0 105 (qX10_centralGenerators_0 9 180 rfl) (qX10_centralGenerators_0 10 0 rfl) (qX10_centralGenerators_0 11 105 rfl)
theorem dX10_centralGenerators_12 : decode cX10_centralGenerators 12 = .ok (.getfield 178, 3) := @dq_o180 cX10_centralGenerators 12 0 178 (qX10_centralGenerators_0 12 180 rfl) (qX10_centralGenerators_0 13 0 rfl) (qX10_centralGenerators_0 14 178 rfl)
theorem dX10_centralGenerators_15 : decode cX10_centralGenerators 15 = .ok (.if_icmp .ge 29, 3) := @dq_o162 cX10_centralGenerators 15 0 29 (qX10_centralGenerators_0 15 162 rfl) (qX10_centralGenerators_1 0 0 rfl) (qX10_centralGenerators_1 1 29 rfl)
theorem dX10_centralGenerators_18 : decode cX10_centralGenerators 18 = .ok (.aload_n 0, 1) := @dq_o42 cX10_centralGenerators 18 (qX10_centralGenerators_1 2 42 rfl)
theorem dX10_centralGenerators_19 : decode cX10_centralGenerators 19 = .ok (.getfield 12, 3) := @dq_o180 cX10_centralGenerators 19 0 12 (qX10_centralGenerators_1 3 180 rfl) (qX10_centralGenerators_1 4 0 rfl) (qX10_centralGenerators_1 5 12 rfl)
theorem dX10_centralGenerators_22 : decode cX10_centralGenerators 22 = .ok (.getfield 105, 3) := @dq_o180 cX10_centralGenerators 22 0 105 (qX10_centralGenerators_1 6 180 rfl) (qX10_centralGenerators_1 7 0 rfl) (qX10_centralGenerators_1 8 105 rfl)
theorem dX10_centralGenerators_25 : decode cX10_centralGenerators 25 = .ok (.iload_n 2, 1) := @dq_o28 cX10_centralGenerators 25 (qX10_centralGenerators_1 9 28 rfl)
theorem dX10_centralGenerators_26 : decode cX10_centralGenerators 26 = .ok (.invokevirtual 155, 3) := @dq_o182 cX10_centralGenerators 26 0 155 (qX10_centralGenerators_1 10 182 rfl) (qX10_centralGenerators_1 11 0 rfl) (qX10_centralGenerators_1 12 155 rfl)
theorem dX10_centralGenerators_29 : decode cX10_centralGenerators 29 = .ok (.ifCond .eq 9, 3) := @dq_o153 cX10_centralGenerators 29 0 9 (qX10_centralGenerators_1 13 153 rfl) (qX10_centralGenerators_1 14 0 rfl) (qX10_centralGenerators_1 15 9 rfl)
theorem dX10_centralGenerators_32 : decode cX10_centralGenerators 32 = .ok (.iload_n 1, 1) := @dq_o27 cX10_centralGenerators 32 (qX10_centralGenerators_2 0 27 rfl)
theorem dX10_centralGenerators_33 : decode cX10_centralGenerators 33 = .ok (.iconst 1, 1) := @dq_o4 cX10_centralGenerators 33 (qX10_centralGenerators_2 1 4 rfl)
theorem dX10_centralGenerators_34 : decode cX10_centralGenerators 34 = .ok (.iload_n 2, 1) := @dq_o28 cX10_centralGenerators 34 (qX10_centralGenerators_2 2 28 rfl)
theorem dX10_centralGenerators_35 : decode cX10_centralGenerators 35 = .ok (.ishl, 1) := @dq_o120 cX10_centralGenerators 35 (qX10_centralGenerators_2 3 120 rfl)
theorem dX10_centralGenerators_36 : decode cX10_centralGenerators 36 = .ok (.ior, 1) := @dq_o128 cX10_centralGenerators 36 (qX10_centralGenerators_2 4 128 rfl)
theorem dX10_centralGenerators_37 : decode cX10_centralGenerators 37 = .ok (.istore_n 1, 1) := @dq_o60 cX10_centralGenerators 37 (qX10_centralGenerators_2 5 60 rfl)
theorem dX10_centralGenerators_38 : decode cX10_centralGenerators 38 = .ok (.iinc 2 1, 3) := @dq_o132 cX10_centralGenerators 38 2 1 (qX10_centralGenerators_2 6 132 rfl) (qX10_centralGenerators_2 7 2 rfl) (qX10_centralGenerators_2 8 1 rfl)
theorem dX10_centralGenerators_41 : decode cX10_centralGenerators 41 = .ok (.goto (-37), 3) := @dq_o167 cX10_centralGenerators 41 255 219 (qX10_centralGenerators_2 9 167 rfl) (qX10_centralGenerators_2 10 255 rfl) (qX10_centralGenerators_2 11 219 rfl)
theorem dX10_centralGenerators_44 : decode cX10_centralGenerators 44 = .ok (.iload_n 1, 1) := @dq_o27 cX10_centralGenerators 44 (qX10_centralGenerators_2 12 27 rfl)
theorem dX10_centralGenerators_45 : decode cX10_centralGenerators 45 = .ok (.ireturn, 1) := @dq_o172 cX10_centralGenerators 45 (qX10_centralGenerators_2 13 172 rfl)
abbrev qaX11_isIn_0 : List Nat := [31, 33, 148, 155, 0, 14, 31, 22, 5, 148, 157, 0, 7, 4, 167, 0]
abbrev qaX11_isIn_1 : List Nat := [4, 3, 172]
def qtX11_isIn_2 : List Nat := []
def qtX11_isIn_1 : List Nat := qaX11_isIn_1 ++ qtX11_isIn_2
def qtX11_isIn_0 : List Nat := qaX11_isIn_0 ++ qtX11_isIn_1
theorem qeX11_isIn : cX11_isIn.data.toList.map UInt8.toNat = qtX11_isIn_0 := by decide +kernel
theorem qsX11_isIn_0 : ∀ i, dqNth qtX11_isIn_0 (0 + i) = dqNth qtX11_isIn_0 i := fun i => by rw [Nat.zero_add]
theorem qsX11_isIn_1 : ∀ i, dqNth qtX11_isIn_0 (16 + i) = dqNth qtX11_isIn_1 i := dq_step qsX11_isIn_0 rfl rfl
theorem qX11_isIn_0 (i b : Nat) (h : dqNth qaX11_isIn_0 i = some b) : DqBy cX11_isIn (0 + i) b := dqBy_of qeX11_isIn ((qsX11_isIn_0 i).trans (dq_in h))
theorem qX11_isIn_1 (i b : Nat) (h : dqNth qaX11_isIn_1 i = some b) : DqBy cX11_isIn (16 + i) b := dqBy_of qeX11_isIn ((qsX11_isIn_1 i).trans (dq_in h))
theorem dX11_isIn_0 : decode cX11_isIn 0 = .ok (.lload_n 1, 1) := @dq_o31 cX11_isIn 0 (qX11_isIn_0 0 31 rfl)
theorem dX11_isIn_1 : decode cX11_isIn 1 = .ok (.lload_n 3, 1) := @dq_o33 cX11_isIn 1 (qX11_isIn_0 1 33 rfl)
theorem dX11_isIn_2 : decode cX11_isIn 2 = .ok (.lcmp, 1) := @dq_o148 cX11_isIn 2 (qX11_isIn_0 2 148 rfl)
theorem dX11_isIn_3 : decode cX11_isIn 3 = .ok (.ifCond .lt 14, 3) := @dq_o155 cX11_isIn 3 0 14 (qX11_isIn_0 3 155 rfl) (qX11_isIn_0 4 0 rfl) (qX11_isIn_0 5 14 rfl)
theorem dX11_isIn_6 : decode cX11_isIn 6 = .ok (.lload_n 1, 1) := @dq_o31 cX11_isIn 6 (qX11_isIn_0 6 31 rfl)
theorem dX11_isIn_7 : decode cX11_isIn 7 = .ok (.lload 5, 2) := @dq_o22 cX11_isIn 7 5 (qX11_isIn_0 7 22 rfl) (qX11_isIn_0 8 5 rfl)
theorem dX11_isIn_9 : decode cX11_isIn 9 = .ok (.lcmp, 1) := @dq_o148 cX11_isIn 9 (qX11_isIn_0 9 148 rfl)
theorem dX11_isIn_10 : decode cX11_isIn 10 = .ok (.ifCond .gt 7, 3) := @dq_o157 cX11_isIn 10 0 7 (qX11_isIn_0 10 157 rfl) (qX11_isIn_0 11 0 rfl) (qX11_isIn_0 12 7 rfl)
theorem dX11_isIn_13 : decode cX11_isIn 13 = .ok (.iconst 1, 1) := @dq_o4 cX11_isIn 13 (qX11_isIn_0 13 4 rfl)
theorem dX11_isIn_14 : decode cX11_isIn 14 = .ok (.goto 4, 3) := @dq_o167 cX11_isIn 14 0 4 (qX11_isIn_0 14 167 rfl) (qX11_isIn_0 15 0 rfl) (qX11_isIn_1 0 4 rfl)
theorem dX11_isIn_17 : decode cX11_isIn 17 = .ok (.iconst 0, 1) := @dq_o3 cX11_isIn 17 (qX11_isIn_1 1 3 rfl)
theorem dX11_isIn_18 : decode cX11_isIn 18 = .ok (.ireturn, 1) := @dq_o172 cX11_isIn 18 (qX11_isIn_1 2 172 rfl)
abbrev qaX11_init_0 : List Nat := [42, 183, 0, 7, 42, 17, 1, 27, 188, 10, 181, 0, 13, 42, 17, 8]
abbrev qaX11_init_1 : List Nat := [216, 188, 10, 181, 0, 17, 42, 17, 62, 128, 188, 10, 181, 0, 20, 42]
abbrev qaX11_init_2 : List Nat := [16, 6, 188, 10, 181, 0, 23, 42, 16, 6, 188, 10, 181, 0, 26, 42]
abbrev qaX11_init_3 : List Nat := [18, 29, 188, 11, 181, 0, 30, 42, 17, 2, 88, 188, 11, 181, 0, 34]
abbrev qaX11_init_4 : List Nat := [42, 16, 6, 188, 11, 181, 0, 37, 42, 16, 12, 188, 10, 181, 0, 40]
abbrev qaX11_init_5 : List Nat := [42, 16, 12, 188, 10, 181, 0, 43, 42, 17, 0, 200, 188, 10, 181, 0]
abbrev qaX11_init_6 : List Nat := [46, 42, 2, 181, 0, 49, 42, 2, 181, 0, 52, 42, 16, 6, 188, 10]
abbrev qaX11_init_7 : List Nat := [181, 0, 55, 42, 17, 23, 118, 188, 11, 181, 0, 58, 42, 17, 1, 104]
abbrev qaX11_init_8 : List Nat := [188, 11, 181, 0, 61, 42, 16, 18, 188, 11, 181, 0, 64, 42, 16, 72]
abbrev qaX11_init_9 : List Nat := [188, 11, 181, 0, 67, 42, 17, 1, 44, 188, 10, 181, 0, 70, 42, 182]
abbrev qaX11_init_10 : List Nat := [0, 73, 177]
def qtX11_init_11 : List Nat := []
def qtX11_init_10 : List Nat := qaX11_init_10 ++ qtX11_init_11
def qtX11_init_9 : List Nat := qaX11_init_9 ++ qtX11_init_10
def qtX11_init_8 : List Nat := qaX11_init_8 ++ qtX11_init_9
def qtX11_init_7 : List Nat := qaX11_init_7 ++ qtX11_init_8
def qtX11_init_6 : List Nat := qaX11_init_6 ++ qtX11_init_7
def qtX11_init_5 : List Nat := qaX11_init_5 ++ qtX11_init_6
def qtX11_init_4 : List Nat := qaX11_init_4 ++ qtX11_init_5
def qtX11_init_3 : List Nat := qaX11_init_3 ++ qtX11_init_4
def qtX11_init_2 : List Nat := qaX11_init_2 ++ qtX11_init_3
def qtX11_init_1 : List Nat := qaX11_init_1 ++ qtX11_init_2
def qtX11_init_0 : List Nat := qaX11_init_0 ++ qtX11_init_1
theorem qeX11_init : cX11_init.data.toList.map UInt8.toNat = qtX11_init_0 := by decide +kernel
theorem qsX11_init_0 : ∀ i, dqNth qtX11_init_0 (0 + i) = dqNth qtX11_init_0 i := fun i => by rw [Nat.zero_add]
theorem qsX11_init_1 : ∀ i, dqNth qtX11_init_0 (16 + i) = dqNth qtX11_init_1 i := dq_step qsX11_init_0 rfl rfl
theorem qsX11_init_2 : ∀ i, dqNth qtX11_init_0 (32 + i) = dqNth qtX11_init_2 i := dq_step qsX11_init_1 rfl rfl
theorem qsX11_init_3 : ∀ i, dqNth qtX11_init_0 (48 + i) = dqNth qtX11_init_3 i := dq_step qsX11_init_2 rfl rfl
theorem qsX11_init_4 : ∀ i, dqNth qtX11_init_0 (64 + i) = dqNth qtX11_init_4 i := dq_step qsX11_init_3 rfl rfl
theorem qsX11_init_5 : ∀ i, dqNth qtX11_init_0 (80 + i) = dqNth qtX11_init_5 i := dq_step qsX11_init_4 rfl rfl
theorem qsX11_init_6 : ∀ i, dqNth qtX11_init_0 (96 + i) = dqNth qtX11_init_6 i := dq_step qsX11_init_5 rfl rfl
theorem qsX11_init_7 : ∀ i, dqNth qtX11_init_0 (112 + i) = dqNth qtX11_init_7 i := dq_step qsX11_init_6 rfl rfl
theorem qsX11_init_8 : ∀ i, dqNth qtX11_init_0 (128 + i) = dqNth qtX11_init_8 i := dq_step qsX11_init_7 rfl rfl
theorem qsX11_init_9 : ∀ i, dqNth qtX11_init_0 (144 + i) = dqNth qtX11_init_9 i := dq_step qsX11_init_8 rfl rfl
theorem qsX11_init_10 : ∀ i, dqNth qtX11_init_0 (160 + i) = dqNth qtX11_init_10 i := dq_step qsX11_init_9 rfl rfl
theorem qX11_init_0 (i b : Nat) (h : dqNth qaX11_init_0 i = some b) : DqBy cX11_init (0 + i) b := dqBy_of qeX11_init ((qsX11_init_0 i).trans (dq_in h))
theorem qX11_init_1 (i b : Nat) (h : dqNth qaX11_init_1 i = some b) : DqBy cX11_init (16 + i) b := dqBy_of qeX11_init ((qsX11_init_1 i).trans (dq_in h))
theorem qX11_init_2 (i b : Nat) (h : dqNth qaX11_init_2 i = some b) : DqBy cX11_init (32 + i) b := dqBy_of qeX11_init ((qsX11_init_2 i).trans (dq_in h))
theorem qX11_init_3 (i b : Nat) (h : dqNth qaX11_init_3 i = some b) : DqBy cX11_init (48 + i) b := dqBy_of qeX11_init ((qsX11_init_3 i).trans (dq_in h))
theorem qX11_init_4 (i b : Nat) (h : dqNth qaX11_init_4 i = some b) : DqBy cX11_init (64 + i) b := dqBy_of qeX11_init ((qsX11_init_4 i).trans (dq_in h))
theorem qX11_init_5 (i b : Nat) (h : dqNth qaX11_init_5 i = some b) : DqBy cX11_init (80 + i) b := dqBy_of qeX11_init ((qsX11_init_5 i).trans (dq_in h))
theorem qX11_init_6 (i b : Nat) (h : dqNth qaX11_init_6 i = some b) : DqBy cX11_init (96 + i) b := dqBy_of qeX11_init ((qsX11_init_6 i).trans (dq_in h))
theorem qX11_init_7 (i b : Nat) (h : dqNth qaX11_init_7 i = some b) : DqBy cX11_init (112 + i) b := dqBy_of qeX11_init ((qsX11_init_7 i).trans (dq_in h))
theorem qX11_init_8 (i b : Nat) (h : dqNth qaX11_init_8 i = some b) : DqBy cX11_init (128 + i) b := dqBy_of qeX11_init ((qsX11_init_8 i).trans (dq_in h))
theorem qX11_init_9 (i b : Nat) (h : dqNth qaX11_init_9 i = some b) : DqBy cX11_init (144 + i) b := dqBy_of qeX11_init ((qsX11_init_9 i).trans (dq_in h))
theorem qX11_init_10 (i b : Nat) (h : dqNth qaX11_init_10 i = some b) : DqBy cX11_init (160 + i) b := dqBy_of qeX11_init ((qsX11_init_10 i).trans (dq_in h))
theorem dX11_init_0 : decode cX11_init 0 = .ok (.aload_n 0, 1) := @dq_o42 cX11_init 0 (qX11_init_0 0 42 rfl)
theorem dX11_init_1 : decode cX11_init 1 = .ok (.invokespecial 7, 3) := @dq_o183 cX11_init 1 0 7 (qX11_init_0 1 183 rfl) (qX11_init_0 2 0 rfl) (qX11_init_0 3 7 rfl)
theorem dX11_init_4 : decode cX11_init 4 = .ok (.aload_n 0, 1) := @dq_o42 cX11_init 4 (qX11_init_0 4 42 rfl)
theorem dX11_init_5 : decode cX11_init 5 = .ok (.sipush 283, 3) := @dq_o17 cX11_init 5 1 27 (qX11_init_0 5 17 rfl) (qX11_init_0 6 1 rfl) (qX11_init_0 7 27 rfl)
theorem dX11_init_8 : decode cX11_init 8 = .ok (.newarray .int, 2) := by decide +kernel
theorem dX11_init_10 : decode cX11_init 10 = .ok (.putfield 13, 3) := @dq_o181 cX11_init 10 0 13 (qX11_init_0 10 181 rfl) (qX11_init_0 11 0 rfl) (qX11_init_0 12 13 rfl)
theorem dX11_init_13 : decode cX11_init 13 = .ok (.aload_n 0, 1) := @dq_o42 cX11_init 13 (qX11_init_0 13 42 rfl)
theorem dX11_init_14 : decode cX11_init 14 = .ok (.sipush 2264, 3) := @dq_o17 cX11_init 14 8 216 (qX11_init_0 14 17 rfl) (qX11_init_0 15 8 rfl) (qX11_init_1 0 216 rfl)
theorem dX11_init_17 : decode cX11_init 17 = .ok (.newarray .int, 2) := by decide +kernel
theorem dX11_init_19 : decode cX11_init 19 = .ok (.putfield 17, 3) := @dq_o181 cX11_init 19 0 17 (qX11_init_1 3 181 rfl) (qX11_init_1 4 0 rfl) (qX11_init_1 5 17 rfl)
theorem dX11_init_22 : decode cX11_init 22 = .ok (.aload_n 0, 1) := @dq_o42 cX11_init 22 (qX11_init_1 6 42 rfl)
theorem dX11_init_23 : decode cX11_init 23 = .ok (.sipush 16000, 3) := @dq_o17 cX11_init 23 62 128 (qX11_init_1 7 17 rfl) (qX11_init_1 8 62 rfl) (qX11_init_1 9 128 rfl)
theorem dX11_init_26 : decode cX11_init 26 = .ok (.newarray .int, 2) := by decide +kernel
theorem dX11_init_28 : decode cX11_init 28 = .ok (.putfield 20, 3) := @dq_o181 cX11_init 28 0 20 (qX11_init_1 12 181 rfl) (qX11_init_1 13 0 rfl) (qX11_init_1 14 20 rfl)
theorem dX11_init_31 : decode cX11_init 31 = .ok (.aload_n 0, 1) := @dq_o42 cX11_init 31 (qX11_init_1 15 42 rfl)
theorem dX11_init_32 : decode cX11_init 32 = .ok (.bipush 6, 2) := @dq_o16 cX11_init 32 6 (qX11_init_2 0 16 rfl) (qX11_init_2 1 6 rfl)
theorem dX11_init_34 : decode cX11_init 34 = .ok (.newarray .int, 2) := by decide +kernel
theorem dX11_init_36 : decode cX11_init 36 = .ok (.putfield 23, 3) := @dq_o181 cX11_init 36 0 23 (qX11_init_2 4 181 rfl) (qX11_init_2 5 0 rfl) (qX11_init_2 6 23 rfl)
theorem dX11_init_39 : decode cX11_init 39 = .ok (.aload_n 0, 1) := @dq_o42 cX11_init 39 (qX11_init_2 7 42 rfl)
theorem dX11_init_40 : decode cX11_init 40 = .ok (.bipush 6, 2) := @dq_o16 cX11_init 40 6 (qX11_init_2 8 16 rfl) (qX11_init_2 9 6 rfl)
theorem dX11_init_42 : decode cX11_init 42 = .ok (.newarray .int, 2) := by decide +kernel
theorem dX11_init_44 : decode cX11_init 44 = .ok (.putfield 26, 3) := @dq_o181 cX11_init 44 0 26 (qX11_init_2 12 181 rfl) (qX11_init_2 13 0 rfl) (qX11_init_2 14 26 rfl)
theorem dX11_init_47 : decode cX11_init 47 = .ok (.aload_n 0, 1) := @dq_o42 cX11_init 47 (qX11_init_2 15 42 rfl)
theorem dX11_init_48 : decode cX11_init 48 = .ok (.ldc 29, 2) := @dq_o18 cX11_init 48 29 (qX11_init_3 0 18 rfl) (qX11_init_3 1 29 rfl)
theorem dX11_init_50 : decode cX11_init 50 = .ok (.newarray .long, 2) := by decide +kernel
theorem dX11_init_52 : decode cX11_init 52 = .ok (.putfield 30, 3) := @dq_o181 cX11_init 52 0 30 (qX11_init_3 4 181 rfl) (qX11_init_3 5 0 rfl) (qX11_init_3 6 30 rfl)
theorem dX11_init_55 : decode cX11_init 55 = .ok (.aload_n 0, 1) := @dq_o42 cX11_init 55 (qX11_init_3 7 42 rfl)
theorem dX11_init_56 : decode cX11_init 56 = .ok (.sipush 600, 3) := @dq_o17 cX11_init 56 2 88 (qX11_init_3 8 17 rfl) (qX11_init_3 9 2 rfl) (qX11_init_3 10 88 rfl)
theorem dX11_init_59 : decode cX11_init 59 = .ok (.newarray .long, 2) := by decide +kernel
theorem dX11_init_61 : decode cX11_init 61 = .ok (.putfield 34, 3) := @dq_o181 cX11_init 61 0 34 (qX11_init_3 13 181 rfl) (qX11_init_3 14 0 rfl) (qX11_init_3 15 34 rfl)
theorem dX11_init_64 : decode cX11_init 64 = .ok (.aload_n 0, 1) := @dq_o42 cX11_init 64 (qX11_init_4 0 42 rfl)
theorem dX11_init_65 : decode cX11_init 65 = .ok (.bipush 6, 2) := @dq_o16 cX11_init 65 6 (qX11_init_4 1 16 rfl) (qX11_init_4 2 6 rfl)
theorem dX11_init_67 : decode cX11_init 67 = .ok (.newarray .long, 2) := by decide +kernel
theorem dX11_init_69 : decode cX11_init 69 = .ok (.putfield 37, 3) := @dq_o181 cX11_init 69 0 37 (qX11_init_4 5 181 rfl) (qX11_init_4 6 0 rfl) (qX11_init_4 7 37 rfl)
theorem dX11_init_72 : decode cX11_init 72 = .ok (.aload_n 0, 1) := @dq_o42 cX11_init 72 (qX11_init_4 8 42 rfl)
theorem dX11_init_73 : decode cX11_init 73 = .ok (.bipush 12, 2) := @dq_o16 cX11_init 73 12 (qX11_init_4 9 16 rfl) (qX11_init_4 10 12 rfl)
theorem dX11_init_75 : decode cX11_init 75 = .ok (.newarray .int, 2) := by decide +kernel
theorem dX11_init_77 : decode cX11_init 77 = .ok (.putfield 40, 3) := @dq_o181 cX11_init 77 0 40 (qX11_init_4 13 181 rfl) (qX11_init_4 14 0 rfl) (qX11_init_4 15 40 rfl)
theorem dX11_init_80 : decode cX11_init 80 = .ok (.aload_n 0, 1) := @dq_o42 cX11_init 80 (qX11_init_5 0 42 rfl)
theorem dX11_init_81 : decode cX11_init 81 = .ok (.bipush 12, 2) := @dq_o16 cX11_init 81 12 (qX11_init_5 1 16 rfl) (qX11_init_5 2 12 rfl)
theorem dX11_init_83 : decode cX11_init 83 = .ok (.newarray .int, 2) := by decide +kernel
theorem dX11_init_85 : decode cX11_init 85 = .ok (.putfield 43, 3) := @dq_o181 cX11_init 85 0 43 (qX11_init_5 5 181 rfl) (qX11_init_5 6 0 rfl) (qX11_init_5 7 43 rfl)
theorem dX11_init_88 : decode cX11_init 88 = .ok (.aload_n 0, 1) := @dq_o42 cX11_init 88 (qX11_init_5 8 42 rfl)
theorem dX11_init_89 : decode cX11_init 89 = .ok (.sipush 200, 3) := @dq_o17 cX11_init 89 0 200 (qX11_init_5 9 17 rfl) (qX11_init_5 10 0 rfl) (qX11_init_5 11 200 rfl)
theorem dX11_init_92 : decode cX11_init 92 = .ok (.newarray .int, 2) := by decide +kernel
theorem dX11_init_94 : decode cX11_init 94 = .ok (.putfield 46, 3) := @dq_o181 cX11_init 94 0 46 (qX11_init_5 14 181 rfl) (qX11_init_5 15 0 rfl) (qX11_init_6 0 46 rfl)
theorem dX11_init_97 : decode cX11_init 97 = .ok (.aload_n 0, 1) := @dq_o42 cX11_init 97 (qX11_init_6 1 42 rfl)
theorem dX11_init_98 : decode cX11_init 98 = .ok (.iconst (-1), 1) := @dq_o2 cX11_init 98 (qX11_init_6 2 2 rfl)
theorem dX11_init_99 : decode cX11_init 99 = .ok (.putfield 49, 3) := @dq_o181 cX11_init 99 0 49 (qX11_init_6 3 181 rfl) (qX11_init_6 4 0 rfl) (qX11_init_6 5 49 rfl)
theorem dX11_init_102 : decode cX11_init 102 = .ok (.aload_n 0, 1) := @dq_o42 cX11_init 102 (qX11_init_6 6 42 rfl)
theorem dX11_init_103 : decode cX11_init 103 = .ok (.iconst (-1), 1) := @dq_o2 cX11_init 103 (qX11_init_6 7 2 rfl)
theorem dX11_init_104 : decode cX11_init 104 = .ok (.putfield 52, 3) := @dq_o181 cX11_init 104 0 52 (qX11_init_6 8 181 rfl) (qX11_init_6 9 0 rfl) (qX11_init_6 10 52 rfl)
theorem dX11_init_107 : decode cX11_init 107 = .ok (.aload_n 0, 1) := @dq_o42 cX11_init 107 (qX11_init_6 11 42 rfl)
theorem dX11_init_108 : decode cX11_init 108 = .ok (.bipush 6, 2) := @dq_o16 cX11_init 108 6 (qX11_init_6 12 16 rfl) (qX11_init_6 13 6 rfl)
theorem dX11_init_110 : decode cX11_init 110 = .ok (.newarray .int, 2) := by decide +kernel
theorem dX11_init_112 : decode cX11_init 112 = .ok (.putfield 55, 3) := @dq_o181 cX11_init 112 0 55 (qX11_init_7 0 181 rfl) (qX11_init_7 1 0 rfl) (qX11_init_7 2 55 rfl)
theorem dX11_init_115 : decode cX11_init 115 = .ok (.aload_n 0, 1) := @dq_o42 cX11_init 115 (qX11_init_7 3 42 rfl)
theorem dX11_init_116 : decode cX11_init 116 = .ok (.sipush 6006, 3) := @dq_o17 cX11_init 116 23 118 (qX11_init_7 4 17 rfl) (qX11_init_7 5 23 rfl) (qX11_init_7 6 118 rfl)
theorem dX11_init_119 : decode cX11_init 119 = .ok (.newarray .long, 2) := by decide +kernel
theorem dX11_init_121 : decode cX11_init 121 = .ok (.putfield 58, 3) := @dq_o181 cX11_init 121 0 58 (qX11_init_7 9 181 rfl) (qX11_init_7 10 0 rfl) (qX11_init_7 11 58 rfl)
theorem dX11_init_124 : decode cX11_init 124 = .ok (.aload_n 0, 1) := @dq_o42 cX11_init 124 (qX11_init_7 12 42 rfl)
theorem dX11_init_125 : decode cX11_init 125 = .ok (.sipush 360, 3) := @dq_o17 cX11_init 125 1 104 (qX11_init_7 13 17 rfl) (qX11_init_7 14 1 rfl) (qX11_init_7 15 104 rfl)
theorem dX11_init_128 : decode cX11_init 128 = .ok (.newarray .long, 2) := by decide +kernel
theorem dX11_init_130 : decode cX11_init 130 = .ok (.putfield 61, 3) := @dq_o181 cX11_init 130 0 61 (qX11_init_8 2 181 rfl) (qX11_init_8 3 0 rfl) (qX11_init_8 4 61 rfl)
theorem dX11_init_133 : decode cX11_init 133 = .ok (.aload_n 0, 1) := @dq_o42 cX11_init 133 (qX11_init_8 5 42 rfl)
theorem dX11_init_134 : decode cX11_init 134 = .ok (.bipush 18, 2) := @dq_o16 cX11_init 134 18 (qX11_init_8 6 16 rfl) (qX11_init_8 7 18 rfl)
theorem dX11_init_136 : decode cX11_init 136 = .ok (.newarray .long, 2) := by decide +kernel
theorem dX11_init_138 : decode cX11_init 138 = .ok (.putfield 64, 3) := @dq_o181 cX11_init 138 0 64 (qX11_init_8 10 181 rfl) (qX11_init_8 11 0 rfl) (qX11_init_8 12 64 rfl)
theorem dX11_init_141 : decode cX11_init 141 = .ok (.aload_n 0, 1) := @dq_o42 cX11_init 141 (qX11_init_8 13 42 rfl)
theorem dX11_init_142 : decode cX11_init 142 = .ok (.bipush 72, 2) := @dq_o16 cX11_init 142 72 (qX11_init_8 14 16 rfl) (qX11_init_8 15 72 rfl)
